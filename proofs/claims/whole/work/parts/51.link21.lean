section LINKS
variable {p : Program} {l : Launch} {e : Env} {s : State} {m : MethodId} {args : Array Value} {below : List Frame} {meth : Method} {c : Code} {G : wG}
theorem k_X12_isOneEnough_b27 {Q : Int32 → Prop} {X3 : Int32 → Prop} {X14 : Int32 × Int32 → Prop} {X27 : Int32 × Int32 → Prop} {x1 : Int32} {x2 : Int32} {x4 : Int32} {h : hp} (C : kC p s m args meth c cX12_isOneEnough 6 (some .boolean) RX12 wUX12_isOneEnough) (hK : kK G s) (hX3 : ∀ (x2 : Int32) (H : Heap) (locs : List Loc) (ls : Array Slot), kW SM G h (aS SM G) s H locs → lv_has ls 6 [(0, .ref (G.2.2 0)), (1, .int x1), (2, .int x2)] → X3 x2 → W p l e rmX12_isOneEnough s m args below meth c H locs 0 0 (MQ below (va_Qi (fun r9 h9 => h9 = h ∧ Q r9) (kB SM G) (aS SM G)) args s 0 0 (aS SM G)) (F0 m 3 ls [])) (hX14 : ∀ (x3 : Int32) (x4 : Int32) (H : Heap) (locs : List Loc) (ls : Array Slot), kW SM G h (aS SM G) s H locs → lv_has ls 6 [(0, .ref (G.2.2 0)), (1, .int x1), (2, .int x2), (3, .int x3), (4, .int x4)] → X14 (x3, x4) → W p l e rmX12_isOneEnough s m args below meth c H locs 0 0 (MQ below (va_Qi (fun r9 h9 => h9 = h ∧ Q r9) (kB SM G) (aS SM G)) args s 0 0 (aS SM G)) (F0 m 14 ls [])) (hX27 : ∀ (x3 : Int32) (x5 : Int32) (H : Heap) (locs : List Loc) (ls : Array Slot), kW SM G h (aS SM G) s H locs → lv_has ls 6 [(0, .ref (G.2.2 0)), (1, .int x1), (2, .int x2), (3, .int x3), (4, .int x4), (5, .int x5)] → X27 (x3, x5) → W p l e rmX12_isOneEnough s m args below meth c H locs 0 0 (MQ below (va_Qi (fun r9 h9 => h9 = h ∧ Q r9) (kB SM G) (aS SM G)) args s 0 0 (aS SM G)) (F0 m 27 ls [])) {x3 : Int32} {x5 : Int32} {H : Heap} {locs : List Loc} {ls : Array Slot} (hW : kW SM G h (aS SM G) s H locs) (hl : lv_has ls 6 [(0, .ref (G.2.2 0)), (1, .int x1), (2, .int x2), (3, .int x3), (4, .int x4), (5, .int x5)]) (hq : w_X12_isOneEnough_b27 Q X3 X14 x1 x2 x4 h X27 x3 x5) : W p l e rmX12_isOneEnough s m args below meth c H locs 0 0 (MQ below (va_Qi (fun r9 h9 => h9 = h ∧ Q r9) (kB SM G) (aS SM G)) args s 0 0 (aS SM G)) (F0 m 27 ls []) := by
  have hx := C.1
  have hb := C.2.1
  unfold w_X12_isOneEnough_b27 at hq
  refine lv_iload hx hb dX12_isOneEnough_27 (lv_at hl 5 rfl) ?_
  refine lv_iload hx hb dX12_isOneEnough_29 (lv_at hl 4 rfl) ?_
  refine lv_icmp_ge (tgt := 96) hx hb dX12_isOneEnough_31 (by decide) (fun c4 => ?_) (fun c4 => ?_)
  · have hq := hq.1 c4
    obtain ⟨x4_5, ex4_5⟩ : ∃ y : Int32, y = x4 + 1 := ⟨_, rfl⟩
    have hq := hq x4_5 ex4_5
    refine lv_iinc (v := x4_5) (lv' := [(4, .int x4_5), (0, .ref (G.2.2 0)), (1, .int x1), (2, .int x2), (3, .int x3), (5, .int x5)]) hx hb dX12_isOneEnough_96 hl (k := 4) rfl (by rw [ex4_5]; rfl) (by decide) rfl (fun ls hl => ?_)
    refine lv_goto (tgt := 14) hx hb dX12_isOneEnough_99 (by decide) ?_
    exact hX14 _ _ _ _ _ hW (lv_sub hl [1, 2, 3, 4, 0] rfl) hq
  · have hq := hq.2 c4
    refine lv_iload_n hx hb dX12_isOneEnough_34 rfl (lv_at hl 3 rfl) ?_
    refine lv_if_eq (tgt := 96) hx hb dX12_isOneEnough_35 (by decide) (fun c6 => ?_) (fun c6 => ?_)
    · have hq := hq.1 c6
      obtain ⟨x4_7, ex4_7⟩ : ∃ y : Int32, y = x4 + 1 := ⟨_, rfl⟩
      have hq := hq x4_7 ex4_7
      refine lv_iinc (v := x4_7) (lv' := [(4, .int x4_7), (0, .ref (G.2.2 0)), (1, .int x1), (2, .int x2), (3, .int x3), (5, .int x5)]) hx hb dX12_isOneEnough_96 hl (k := 4) rfl (by rw [ex4_7]; rfl) (by decide) rfl (fun ls hl => ?_)
      refine lv_goto (tgt := 14) hx hb dX12_isOneEnough_99 (by decide) ?_
      exact hX14 _ _ _ _ _ hW (lv_sub hl [1, 2, 3, 4, 0] rfl) hq
    · have hq := hq.2 c6
      refine lv_aload_n hx hb dX12_isOneEnough_38 rfl (lv_at hl 0 rfl) ?_
      refine gt12_64 C hK hW (rfl : shM 0 = 12) (List.mem_cons_of_mem _ mw308) (fun _ h9 => List.mem_cons_of_mem _ (inU_wsX120 _ h9)) dX12_isOneEnough_39 ?_
      refine lv_iload hx hb dX12_isOneEnough_42 (lv_at hl 4 rfl) ?_
      refine k_zald C hK hW (shM_lt (rfl : shM 42 = 16) (by decide)) (ceM_16 (rfl : shM 42 = 16) (rfl : lnM 42 = 24)) hq.1 dX12_isOneEnough_44 ?_
      have hq := hq.2
      refine lv_if_eq (tgt := 90) hx hb dX12_isOneEnough_45 (by decide) (fun c8 => ?_) (fun c8 => ?_)
      · have hq := hq.1 c8
        obtain ⟨x5_9, ex5_9⟩ : ∃ y : Int32, y = x5 + 1 := ⟨_, rfl⟩
        have hq := hq x5_9 ex5_9
        refine lv_iinc (v := x5_9) (lv' := [(5, .int x5_9), (0, .ref (G.2.2 0)), (1, .int x1), (2, .int x2), (3, .int x3), (4, .int x4)]) hx hb dX12_isOneEnough_90 hl (k := 5) rfl (by rw [ex5_9]; rfl) (by decide) rfl (fun ls hl => ?_)
        refine lv_goto (tgt := 27) hx hb dX12_isOneEnough_93 (by decide) ?_
        exact hX27 _ _ _ _ _ hW (lv_sub hl [1, 2, 3, 4, 5, 0] rfl) hq
      · have hq := hq.2 c8
        refine lv_aload_n hx hb dX12_isOneEnough_48 rfl (lv_at hl 0 rfl) ?_
        refine gt12_64 C hK hW (rfl : shM 0 = 12) (List.mem_cons_of_mem _ mw308) (fun _ h9 => List.mem_cons_of_mem _ (inU_wsX120 _ h9)) dX12_isOneEnough_49 ?_
        refine lv_iload hx hb dX12_isOneEnough_52 (lv_at hl 5 rfl) ?_
        refine k_zald C hK hW (shM_lt (rfl : shM 42 = 16) (by decide)) (ceM_16 (rfl : shM 42 = 16) (rfl : lnM 42 = 24)) hq.1 dX12_isOneEnough_54 ?_
        have hq := hq.2
        refine lv_if_eq (tgt := 90) hx hb dX12_isOneEnough_55 (by decide) (fun c10 => ?_) (fun c10 => ?_)
        · have hq := hq.1 c10
          obtain ⟨x5_11, ex5_11⟩ : ∃ y : Int32, y = x5 + 1 := ⟨_, rfl⟩
          have hq := hq x5_11 ex5_11
          refine lv_iinc (v := x5_11) (lv' := [(5, .int x5_11), (0, .ref (G.2.2 0)), (1, .int x1), (2, .int x2), (3, .int x3), (4, .int x4)]) hx hb dX12_isOneEnough_90 hl (k := 5) rfl (by rw [ex5_11]; rfl) (by decide) rfl (fun ls hl => ?_)
          refine lv_goto (tgt := 27) hx hb dX12_isOneEnough_93 (by decide) ?_
          exact hX27 _ _ _ _ _ hW (lv_sub hl [1, 2, 3, 4, 5, 0] rfl) hq
        · have hq := hq.2 c10
          refine lv_aload_n hx hb dX12_isOneEnough_58 rfl (lv_at hl 0 rfl) ?_
          refine lv_aload_n hx hb dX12_isOneEnough_59 rfl (lv_at hl 0 rfl) ?_
          refine gt12_63 C hK hW (rfl : shM 0 = 12) (List.mem_cons_of_mem _ mw307) (fun _ h9 => List.mem_cons_of_mem _ (inU_wsX120 _ h9)) dX12_isOneEnough_60 ?_
          refine lv_iload hx hb dX12_isOneEnough_63 (lv_at hl 4 rfl) ?_
          refine k_iald C hK hW (shM_lt (rfl : shM 41 = 14) (by decide)) (ceM_14 (rfl : shM 41 = 14) (rfl : lnM 41 = 24)) hq.1 dX12_isOneEnough_65 ?_
          have hq := hq.2
          refine lv_iload_n hx hb dX12_isOneEnough_66 rfl (lv_at hl 2 rfl) ?_
          refine lv_i2l (v := x2.toInt64) hx hb dX12_isOneEnough_67 rfl ?_
          refine k_cl hW (va_runV (As := [.int (gI h 41 (ix x4)), .long (x2.toInt64)]) (rest := []) (k_fix C) (c_X12_worldComes l G h (gI h 41 (ix x4)) (x2.toInt64) _ hq) (cwV 2 C.2.2.2.2.2.1 (gU_V mw892 mw893 mw894 mw5 mw895) rfl rfl rfl (by decide +kernel) ⟨Nat.le_of_ble_eq_true rfl, Nat.le_of_ble_eq_true rfl⟩) (k_preV hK hW (shM_lt (rfl : shM 0 = 12) (by decide)) (ceM_12 (rfl : shM 0 = 12)) (q := (RX12, TX12, 73)) rfl) rfl rfl hl.1 rfl (lv_room (Nat.le_of_ble_eq_true rfl)) dX12_isOneEnough_68 ⟨Nat.le_refl 0, Nat.le_refl 0⟩) (fun r12 h13 H locs hq hW => ?_)
          rw [hq.1] at hW
          have hq := hq.2
          refine lv_aload_n hx hb dX12_isOneEnough_71 rfl (lv_at hl 0 rfl) ?_
          refine lv_aload_n hx hb dX12_isOneEnough_72 rfl (lv_at hl 0 rfl) ?_
          refine gt12_63 C hK hW (rfl : shM 0 = 12) (List.mem_cons_of_mem _ mw307) (fun _ h9 => List.mem_cons_of_mem _ (inU_wsX120 _ h9)) dX12_isOneEnough_73 ?_
          refine lv_iload hx hb dX12_isOneEnough_76 (lv_at hl 5 rfl) ?_
          refine k_iald C hK hW (shM_lt (rfl : shM 41 = 14) (by decide)) (ceM_14 (rfl : shM 41 = 14) (rfl : lnM 41 = 24)) hq.1 dX12_isOneEnough_78 ?_
          have hq := hq.2
          refine lv_iload_n hx hb dX12_isOneEnough_79 rfl (lv_at hl 2 rfl) ?_
          refine lv_i2l (v := x2.toInt64) hx hb dX12_isOneEnough_80 rfl ?_
          refine k_cl hW (va_runV (As := [.int (gI h 41 (ix x5)), .long (x2.toInt64)]) (rest := [.long r12]) (k_fix C) (c_X12_worldComes l G h (gI h 41 (ix x5)) (x2.toInt64) _ hq) (cwV 2 C.2.2.2.2.2.1 (gU_V mw892 mw893 mw894 mw5 mw895) rfl rfl rfl (by decide +kernel) ⟨Nat.le_of_ble_eq_true rfl, Nat.le_of_ble_eq_true rfl⟩) (k_preV hK hW (shM_lt (rfl : shM 0 = 12) (by decide)) (ceM_12 (rfl : shM 0 = 12)) (q := (RX12, TX12, 73)) rfl) rfl rfl hl.1 rfl (lv_room (Nat.le_of_ble_eq_true rfl)) dX12_isOneEnough_81 ⟨Nat.le_refl 0, Nat.le_refl 0⟩) (fun r14 h15 H locs hq hW => ?_)
          rw [hq.1] at hW
          have hq := hq.2
          refine W.lcmp hx hb dX12_isOneEnough_84 ?_
          refine lv_if_ne (tgt := 90) hx hb dX12_isOneEnough_85 (by decide) (fun c16 => ?_) (fun c16 => ?_)
          · have hq := hq.1 (fun z => c16 ((lg_cmp_eq _ _).mpr z))
            obtain ⟨x5_17, ex5_17⟩ : ∃ y : Int32, y = x5 + 1 := ⟨_, rfl⟩
            have hq := hq x5_17 ex5_17
            refine lv_iinc (v := x5_17) (lv' := [(5, .int x5_17), (0, .ref (G.2.2 0)), (1, .int x1), (2, .int x2), (3, .int x3), (4, .int x4)]) hx hb dX12_isOneEnough_90 hl (k := 5) rfl (by rw [ex5_17]; rfl) (by decide) rfl (fun ls hl => ?_)
            refine lv_goto (tgt := 27) hx hb dX12_isOneEnough_93 (by decide) ?_
            exact hX27 _ _ _ _ _ hW (lv_sub hl [1, 2, 3, 4, 5, 0] rfl) hq
          · have hq := hq.2 ((lg_cmp_eq _ _).mp c16)
            refine lv_iconst (v := 0) hx hb dX12_isOneEnough_88 (by decide) ?_
            refine lv_istore_n (lv' := [(3, .int 0), (0, .ref (G.2.2 0)), (1, .int x1), (2, .int x2), (4, .int x4), (5, .int x5)]) hx hb dX12_isOneEnough_89 rfl hl (by decide) rfl (fun ls hl => ?_)
            obtain ⟨x5_18, ex5_18⟩ : ∃ y : Int32, y = x5 + 1 := ⟨_, rfl⟩
            have hq := hq x5_18 ex5_18
            refine lv_iinc (v := x5_18) (lv' := [(5, .int x5_18), (3, .int 0), (0, .ref (G.2.2 0)), (1, .int x1), (2, .int x2), (4, .int x4)]) hx hb dX12_isOneEnough_90 hl (k := 5) rfl (by rw [ex5_18]; rfl) (by decide) rfl (fun ls hl => ?_)
            refine lv_goto (tgt := 27) hx hb dX12_isOneEnough_93 (by decide) ?_
            exact hX27 _ _ _ _ _ hW (lv_sub hl [2, 3, 4, 1, 5, 0] rfl) hq
theorem k_X12_isOneEnough_27 {Q : Int32 → Prop} {X3 : Int32 → Prop} {X14 : Int32 × Int32 → Prop} {x1 : Int32} {x2 : Int32} {x4 : Int32} {h : hp} (C : kC p s m args meth c cX12_isOneEnough 6 (some .boolean) RX12 wUX12_isOneEnough) (hK : kK G s) (hX3 : ∀ (x2 : Int32) (H : Heap) (locs : List Loc) (ls : Array Slot), kW SM G h (aS SM G) s H locs → lv_has ls 6 [(0, .ref (G.2.2 0)), (1, .int x1), (2, .int x2)] → X3 x2 → W p l e rmX12_isOneEnough s m args below meth c H locs 0 0 (MQ below (va_Qi (fun r9 h9 => h9 = h ∧ Q r9) (kB SM G) (aS SM G)) args s 0 0 (aS SM G)) (F0 m 3 ls [])) (hX14 : ∀ (x3 : Int32) (x4 : Int32) (H : Heap) (locs : List Loc) (ls : Array Slot), kW SM G h (aS SM G) s H locs → lv_has ls 6 [(0, .ref (G.2.2 0)), (1, .int x1), (2, .int x2), (3, .int x3), (4, .int x4)] → X14 (x3, x4) → W p l e rmX12_isOneEnough s m args below meth c H locs 0 0 (MQ below (va_Qi (fun r9 h9 => h9 = h ∧ Q r9) (kB SM G) (aS SM G)) args s 0 0 (aS SM G)) (F0 m 14 ls [])) {x3 : Int32} {x5 : Int32} {H : Heap} {locs : List Loc} {ls : Array Slot} (hW : kW SM G h (aS SM G) s H locs) (hl : lv_has ls 6 [(0, .ref (G.2.2 0)), (1, .int x1), (2, .int x2), (3, .int x3), (4, .int x4), (5, .int x5)]) (hq : w_X12_isOneEnough_27 Q X3 X14 x1 x2 x4 h x3 x5) : W p l e rmX12_isOneEnough s m args below meth c H locs 0 0 (MQ below (va_Qi (fun r9 h9 => h9 = h ∧ Q r9) (kB SM G) (aS SM G)) args s 0 0 (aS SM G)) (F0 m 27 ls []) := by
  have key := hq (fun (q : Int32 × Int32) => ∀ (H : Heap) (locs : List Loc) (ls : Array Slot), kW SM G h (aS SM G) s H locs → lv_has ls 6 [(0, .ref (G.2.2 0)), (1, .int x1), (2, .int x2), (3, .int q.1), (4, .int x4), (5, .int q.2)] → W p l e rmX12_isOneEnough s m args below meth c H locs 0 0 (MQ below (va_Qi (fun r9 h9 => h9 = h ∧ Q r9) (kB SM G) (aS SM G)) args s 0 0 (aS SM G)) (F0 m 27 ls []))
    (fun q hq H locs ls hW hl => k_X12_isOneEnough_b27 C hK hX3 hX14 (fun x3 x5 H locs ls hW hl hI => hI H locs ls hW hl) hW hl hq)
  exact key _ _ _ hW hl
theorem k_X12_isOneEnough_102 {Q : Int32 → Prop} {X3 : Int32 → Prop} {x1 : Int32} {x2 : Int32} {x3 : Int32} {h : hp} (C : kC p s m args meth c cX12_isOneEnough 6 (some .boolean) RX12 wUX12_isOneEnough) (hK : kK G s) (hX3 : ∀ (x2 : Int32) (H : Heap) (locs : List Loc) (ls : Array Slot), kW SM G h (aS SM G) s H locs → lv_has ls 6 [(0, .ref (G.2.2 0)), (1, .int x1), (2, .int x2)] → X3 x2 → W p l e rmX12_isOneEnough s m args below meth c H locs 0 0 (MQ below (va_Qi (fun r9 h9 => h9 = h ∧ Q r9) (kB SM G) (aS SM G)) args s 0 0 (aS SM G)) (F0 m 3 ls [])) {H : Heap} {locs : List Loc} {ls : Array Slot} (hW : kW SM G h (aS SM G) s H locs) (hl : lv_has ls 6 [(0, .ref (G.2.2 0)), (1, .int x1), (2, .int x2), (3, .int x3)]) (hq : w_X12_isOneEnough_102 Q X3 x1 x2 x3 h) : W p l e rmX12_isOneEnough s m args below meth c H locs 0 0 (MQ below (va_Qi (fun r9 h9 => h9 = h ∧ Q r9) (kB SM G) (aS SM G)) args s 0 0 (aS SM G)) (F0 m 102 ls []) := by
  have hx := C.1
  have hb := C.2.1
  unfold w_X12_isOneEnough_102 at hq
  refine lv_iload_n hx hb dX12_isOneEnough_102 rfl (lv_at hl 3 rfl) ?_
  refine lv_if_eq (tgt := 108) hx hb dX12_isOneEnough_103 (by decide) (fun c19 => ?_) (fun c19 => ?_)
  · have hq := hq.1 c19
    obtain ⟨x2_20, ex2_20⟩ : ∃ y : Int32, y = x2 + 1 := ⟨_, rfl⟩
    have hq := hq x2_20 ex2_20
    refine lv_iinc (v := x2_20) (lv' := [(2, .int x2_20), (0, .ref (G.2.2 0)), (1, .int x1), (3, .int x3)]) hx hb dX12_isOneEnough_108 hl (k := 2) rfl (by rw [ex2_20]; rfl) (by decide) rfl (fun ls hl => ?_)
    refine lv_goto (tgt := 3) hx hb dX12_isOneEnough_111 (by decide) ?_
    exact hX3 _ _ _ _ hW (lv_sub hl [1, 2, 0] rfl) hq
  · have hq := hq.2 c19
    refine lv_iconst (v := 1) hx hb dX12_isOneEnough_106 (by decide) ?_
    exact k_zret rfl isZ_1.1 C hW dX12_isOneEnough_107 ⟨rfl, hq⟩
theorem k_X12_isOneEnough_b14 {Q : Int32 → Prop} {X3 : Int32 → Prop} {X14 : Int32 × Int32 → Prop} {x1 : Int32} {x2 : Int32} {h : hp} (C : kC p s m args meth c cX12_isOneEnough 6 (some .boolean) RX12 wUX12_isOneEnough) (hK : kK G s) (hX3 : ∀ (x2 : Int32) (H : Heap) (locs : List Loc) (ls : Array Slot), kW SM G h (aS SM G) s H locs → lv_has ls 6 [(0, .ref (G.2.2 0)), (1, .int x1), (2, .int x2)] → X3 x2 → W p l e rmX12_isOneEnough s m args below meth c H locs 0 0 (MQ below (va_Qi (fun r9 h9 => h9 = h ∧ Q r9) (kB SM G) (aS SM G)) args s 0 0 (aS SM G)) (F0 m 3 ls [])) (hX14 : ∀ (x3 : Int32) (x4 : Int32) (H : Heap) (locs : List Loc) (ls : Array Slot), kW SM G h (aS SM G) s H locs → lv_has ls 6 [(0, .ref (G.2.2 0)), (1, .int x1), (2, .int x2), (3, .int x3), (4, .int x4)] → X14 (x3, x4) → W p l e rmX12_isOneEnough s m args below meth c H locs 0 0 (MQ below (va_Qi (fun r9 h9 => h9 = h ∧ Q r9) (kB SM G) (aS SM G)) args s 0 0 (aS SM G)) (F0 m 14 ls [])) {x3 : Int32} {x4 : Int32} {H : Heap} {locs : List Loc} {ls : Array Slot} (hW : kW SM G h (aS SM G) s H locs) (hl : lv_has ls 6 [(0, .ref (G.2.2 0)), (1, .int x1), (2, .int x2), (3, .int x3), (4, .int x4)]) (hq : w_X12_isOneEnough_b14 Q X3 x1 x2 h X14 x3 x4) : W p l e rmX12_isOneEnough s m args below meth c H locs 0 0 (MQ below (va_Qi (fun r9 h9 => h9 = h ∧ Q r9) (kB SM G) (aS SM G)) args s 0 0 (aS SM G)) (F0 m 14 ls []) := by
  have hx := C.1
  have hb := C.2.1
  unfold w_X12_isOneEnough_b14 at hq
  refine lv_iload hx hb dX12_isOneEnough_14 (lv_at hl 4 rfl) ?_
  refine lv_iload_n hx hb dX12_isOneEnough_16 rfl (lv_at hl 1 rfl) ?_
  refine lv_icmp_ge (tgt := 102) hx hb dX12_isOneEnough_17 (by decide) (fun c2 => ?_) (fun c2 => ?_)
  · have hq := hq.1 c2
    exact k_X12_isOneEnough_102 C hK hX3 hW (lv_sub hl [0, 1, 2, 3] rfl) hq
  · have hq := hq.2 c2
    refine lv_iload_n hx hb dX12_isOneEnough_20 rfl (lv_at hl 3 rfl) ?_
    refine lv_if_eq (tgt := 102) hx hb dX12_isOneEnough_21 (by decide) (fun c3 => ?_) (fun c3 => ?_)
    · have hq := hq.1 c3
      exact k_X12_isOneEnough_102 C hK hX3 hW (lv_sub hl [0, 1, 2, 3] rfl) hq
    · have hq := hq.2 c3
      refine lv_iconst (v := 0) hx hb dX12_isOneEnough_24 (by decide) ?_
      refine lv_istore (lv' := [(5, .int 0), (0, .ref (G.2.2 0)), (1, .int x1), (2, .int x2), (3, .int x3), (4, .int x4)]) hx hb dX12_isOneEnough_25 hl (by decide) rfl (fun ls hl => ?_)
      exact k_X12_isOneEnough_27 C hK hX3 hX14 hW (lv_sub hl [1, 2, 3, 4, 5, 0] rfl) hq
theorem k_X12_isOneEnough_14 {Q : Int32 → Prop} {X3 : Int32 → Prop} {x1 : Int32} {x2 : Int32} {h : hp} (C : kC p s m args meth c cX12_isOneEnough 6 (some .boolean) RX12 wUX12_isOneEnough) (hK : kK G s) (hX3 : ∀ (x2 : Int32) (H : Heap) (locs : List Loc) (ls : Array Slot), kW SM G h (aS SM G) s H locs → lv_has ls 6 [(0, .ref (G.2.2 0)), (1, .int x1), (2, .int x2)] → X3 x2 → W p l e rmX12_isOneEnough s m args below meth c H locs 0 0 (MQ below (va_Qi (fun r9 h9 => h9 = h ∧ Q r9) (kB SM G) (aS SM G)) args s 0 0 (aS SM G)) (F0 m 3 ls [])) {x3 : Int32} {x4 : Int32} {H : Heap} {locs : List Loc} {ls : Array Slot} (hW : kW SM G h (aS SM G) s H locs) (hl : lv_has ls 6 [(0, .ref (G.2.2 0)), (1, .int x1), (2, .int x2), (3, .int x3), (4, .int x4)]) (hq : w_X12_isOneEnough_14 Q X3 x1 x2 h x3 x4) : W p l e rmX12_isOneEnough s m args below meth c H locs 0 0 (MQ below (va_Qi (fun r9 h9 => h9 = h ∧ Q r9) (kB SM G) (aS SM G)) args s 0 0 (aS SM G)) (F0 m 14 ls []) := by
  have key := hq (fun (q : Int32 × Int32) => ∀ (H : Heap) (locs : List Loc) (ls : Array Slot), kW SM G h (aS SM G) s H locs → lv_has ls 6 [(0, .ref (G.2.2 0)), (1, .int x1), (2, .int x2), (3, .int q.1), (4, .int q.2)] → W p l e rmX12_isOneEnough s m args below meth c H locs 0 0 (MQ below (va_Qi (fun r9 h9 => h9 = h ∧ Q r9) (kB SM G) (aS SM G)) args s 0 0 (aS SM G)) (F0 m 14 ls []))
    (fun q hq H locs ls hW hl => k_X12_isOneEnough_b14 C hK hX3 (fun x3 x4 H locs ls hW hl hI => hI H locs ls hW hl) hW hl hq)
  exact key _ _ _ hW hl
theorem k_X12_isOneEnough_b3 {Q : Int32 → Prop} {X3 : Int32 → Prop} {x1 : Int32} {h : hp} (C : kC p s m args meth c cX12_isOneEnough 6 (some .boolean) RX12 wUX12_isOneEnough) (hK : kK G s) (hX3 : ∀ (x2 : Int32) (H : Heap) (locs : List Loc) (ls : Array Slot), kW SM G h (aS SM G) s H locs → lv_has ls 6 [(0, .ref (G.2.2 0)), (1, .int x1), (2, .int x2)] → X3 x2 → W p l e rmX12_isOneEnough s m args below meth c H locs 0 0 (MQ below (va_Qi (fun r9 h9 => h9 = h ∧ Q r9) (kB SM G) (aS SM G)) args s 0 0 (aS SM G)) (F0 m 3 ls [])) {x2 : Int32} {H : Heap} {locs : List Loc} {ls : Array Slot} (hW : kW SM G h (aS SM G) s H locs) (hl : lv_has ls 6 [(0, .ref (G.2.2 0)), (1, .int x1), (2, .int x2)]) (hq : w_X12_isOneEnough_b3 Q x1 h X3 x2) : W p l e rmX12_isOneEnough s m args below meth c H locs 0 0 (MQ below (va_Qi (fun r9 h9 => h9 = h ∧ Q r9) (kB SM G) (aS SM G)) args s 0 0 (aS SM G)) (F0 m 3 ls []) := by
  have hx := C.1
  have hb := C.2.1
  unfold w_X12_isOneEnough_b3 at hq
  refine lv_iload_n hx hb dX12_isOneEnough_3 rfl (lv_at hl 2 rfl) ?_
  refine lv_bipush (v := 10) hx hb dX12_isOneEnough_4 (by decide) ?_
  refine lv_icmp_ge (tgt := 114) hx hb dX12_isOneEnough_6 (by decide) (fun c1 => ?_) (fun c1 => ?_)
  · have hq := hq.1 c1
    refine lv_iconst (v := 0) hx hb dX12_isOneEnough_114 (by decide) ?_
    exact k_zret rfl isZ_0.1 C hW dX12_isOneEnough_115 ⟨rfl, hq⟩
  · have hq := hq.2 c1
    refine lv_iconst (v := 1) hx hb dX12_isOneEnough_9 (by decide) ?_
    refine lv_istore_n (lv' := [(3, .int 1), (0, .ref (G.2.2 0)), (1, .int x1), (2, .int x2)]) hx hb dX12_isOneEnough_10 rfl hl (by decide) rfl (fun ls hl => ?_)
    refine lv_iconst (v := 0) hx hb dX12_isOneEnough_11 (by decide) ?_
    refine lv_istore (lv' := [(4, .int 0), (3, .int 1), (0, .ref (G.2.2 0)), (1, .int x1), (2, .int x2)]) hx hb dX12_isOneEnough_12 hl (by decide) rfl (fun ls hl => ?_)
    exact k_X12_isOneEnough_14 C hK hX3 hW (lv_sub hl [2, 3, 4, 1, 0] rfl) hq
theorem k_X12_isOneEnough_3 {Q : Int32 → Prop} {x1 : Int32} {h : hp} (C : kC p s m args meth c cX12_isOneEnough 6 (some .boolean) RX12 wUX12_isOneEnough) (hK : kK G s) {x2 : Int32} {H : Heap} {locs : List Loc} {ls : Array Slot} (hW : kW SM G h (aS SM G) s H locs) (hl : lv_has ls 6 [(0, .ref (G.2.2 0)), (1, .int x1), (2, .int x2)]) (hq : w_X12_isOneEnough_3 Q x1 h x2) : W p l e rmX12_isOneEnough s m args below meth c H locs 0 0 (MQ below (va_Qi (fun r9 h9 => h9 = h ∧ Q r9) (kB SM G) (aS SM G)) args s 0 0 (aS SM G)) (F0 m 3 ls []) := by
  have key := hq (fun (q : Int32) => ∀ (H : Heap) (locs : List Loc) (ls : Array Slot), kW SM G h (aS SM G) s H locs → lv_has ls 6 [(0, .ref (G.2.2 0)), (1, .int x1), (2, .int q)] → W p l e rmX12_isOneEnough s m args below meth c H locs 0 0 (MQ below (va_Qi (fun r9 h9 => h9 = h ∧ Q r9) (kB SM G) (aS SM G)) args s 0 0 (aS SM G)) (F0 m 3 ls []))
    (fun q hq H locs ls hW hl => k_X12_isOneEnough_b3 C hK (fun x2 H locs ls hW hl hI => hI H locs ls hW hl) hW hl hq)
  exact key _ _ _ hW hl
theorem k_X12_isOneEnough_0 {Q : Int32 → Prop} {x1 : Int32} {h : hp} (C : kC p s m args meth c cX12_isOneEnough 6 (some .boolean) RX12 wUX12_isOneEnough) (hK : kK G s) {H : Heap} {locs : List Loc} {ls : Array Slot} (hW : kW SM G h (aS SM G) s H locs) (hl : lv_has ls 6 [(0, .ref (G.2.2 0)), (1, .int x1)]) (hq : w_X12_isOneEnough_0 Q x1 h) : W p l e rmX12_isOneEnough s m args below meth c H locs 0 0 (MQ below (va_Qi (fun r9 h9 => h9 = h ∧ Q r9) (kB SM G) (aS SM G)) args s 0 0 (aS SM G)) (F0 m 0 ls []) := by
  have hx := C.1
  have hb := C.2.1
  unfold w_X12_isOneEnough_0 at hq
  refine lv_bipush (v := (-9)) hx hb dX12_isOneEnough_0 (by decide) ?_
  refine lv_istore_n (lv' := [(2, .int (-9)), (0, .ref (G.2.2 0)), (1, .int x1)]) hx hb dX12_isOneEnough_2 rfl hl (by decide) rfl (fun ls hl => ?_)
  exact k_X12_isOneEnough_3 C hK hW (lv_sub hl [1, 2, 0] rfl) hq
theorem c_X12_isOneEnough (l : Launch) (G : wG) (h : hp) (x1 : Int32) (Q : Int32 → Prop) (hq : w_X12_isOneEnough h x1 Q) : ctI l SM G yX12_isOneEnough wUX12_isOneEnough rmX12_isOneEnough h [.ref (G.2.2 0), .int x1] (fun r9 h9 => h9 = h ∧ Q r9) := by
  refine k_start (cc := cX12_isOneEnough) (maxL := 6) (rt := (some .boolean)) (own := RX12) (by decide +kernel) rfl rfl (Nat.le_of_ble_eq_true rfl) ?_
  intro p e s m below meth c ls C hK hW hl
  exact k_X12_isOneEnough_0 C hK hW hl hq
theorem k_X12_areTwoEnough_78 {Q : Int32 → hp → Prop} {X3 : Int32 × hp → Prop} {X14 : Int32 × Int32 × hp → Prop} {X42 : Int32 × hp → Prop} {x1 : Int32} {x2 : Int32} {x4 : Int32} {x5 : Int64} {x7 : Int32} {h : hp} {s0 : Int32} {s1 : Int32} (C : kC p s m args meth c cX12_areTwoEnough 8 (some .boolean) RX12 wUX12_areTwoEnough) (hK : kK G s) (hX3 : ∀ (x2 : Int32) (h : hp) (H : Heap) (locs : List Loc) (ls : Array Slot), kW SM G h (aS SM G) s H locs → lv_has ls 8 [(0, .ref (G.2.2 0)), (1, .int x1), (2, .int x2)] → X3 (x2, h) → W p l e rmX12_areTwoEnough s m args below meth c H locs 0 0 (MQ below (va_Qi Q (kB SM G) (aS SM G)) args s 0 0 (aS SM G)) (F0 m 3 ls [])) (hX14 : ∀ (x3 : Int32) (x4 : Int32) (h : hp) (H : Heap) (locs : List Loc) (ls : Array Slot), kW SM G h (aS SM G) s H locs → lv_has ls 8 [(0, .ref (G.2.2 0)), (1, .int x1), (2, .int x2), (3, .int x3), (4, .int x4)] → X14 (x3, x4, h) → W p l e rmX12_areTwoEnough s m args below meth c H locs 0 0 (MQ below (va_Qi Q (kB SM G) (aS SM G)) args s 0 0 (aS SM G)) (F0 m 14 ls [])) (hX42 : ∀ (x7 : Int32) (h : hp) (H : Heap) (locs : List Loc) (ls : Array Slot), kW SM G h (aS SM G) s H locs → lv_has ls 8 [(0, .ref (G.2.2 0)), (1, .int x1), (2, .int x2), (4, .int x4), (5, .long x5), (7, .int x7)] → X42 (x7, h) → W p l e rmX12_areTwoEnough s m args below meth c H locs 0 0 (MQ below (va_Qi Q (kB SM G) (aS SM G)) args s 0 0 (aS SM G)) (F0 m 42 ls [])) {H : Heap} {locs : List Loc} {ls : Array Slot} (hW : kW SM G h (aS SM G) s H locs) (hl : lv_has ls 8 [(0, .ref (G.2.2 0)), (1, .int x1), (2, .int x2), (4, .int x4), (5, .long x5), (7, .int x7)]) (hq : w_X12_areTwoEnough_78 Q X3 X14 X42 x1 x2 x4 x5 x7 h s0 s1) : W p l e rmX12_areTwoEnough s m args below meth c H locs 0 0 (MQ below (va_Qi Q (kB SM G) (aS SM G)) args s 0 0 (aS SM G)) (F0 m 78 ls [.int s0, .int s1, .ref (G.2.2 42)]) := by
  have hx := C.1
  have hb := C.2.1
  unfold w_X12_areTwoEnough_78 at hq
  refine k_zast okM C hK hW (shM_lt (rfl : shM 42 = 16) (by decide)) (fun g9 => ceM_16 (rfl : shM 42 = 16) (rfl : lnM 42 = 24)) hq.1 dX12_areTwoEnough_78 (fun H locs hW => ?_)
  have hq := hq.2
  obtain ⟨h13, eh13⟩ : ∃ z : hp, z = sI h 42 (ix s1) (jz s0) := ⟨_, rfl⟩
  rw [← eh13] at hW
  have hq := hq h13 eh13
  obtain ⟨x7_14, ex7_14⟩ : ∃ y : Int32, y = x7 + 1 := ⟨_, rfl⟩
  have hq := hq x7_14 ex7_14
  refine lv_iinc (v := x7_14) (lv' := [(7, .int x7_14), (0, .ref (G.2.2 0)), (1, .int x1), (2, .int x2), (4, .int x4), (5, .long x5)]) hx hb dX12_areTwoEnough_79 hl (k := 5) rfl (by rw [ex7_14]; rfl) (by decide) rfl (fun ls hl => ?_)
  refine lv_goto (tgt := 42) hx hb dX12_areTwoEnough_82 (by decide) ?_
  exact hX42 _ _ _ _ _ hW (lv_sub hl [1, 2, 3, 4, 5, 0] rfl) hq
theorem k_X12_areTwoEnough_b42 {Q : Int32 → hp → Prop} {X3 : Int32 × hp → Prop} {X14 : Int32 × Int32 × hp → Prop} {X42 : Int32 × hp → Prop} {x1 : Int32} {x2 : Int32} {x4 : Int32} {x5 : Int64} (C : kC p s m args meth c cX12_areTwoEnough 8 (some .boolean) RX12 wUX12_areTwoEnough) (hK : kK G s) (hX3 : ∀ (x2 : Int32) (h : hp) (H : Heap) (locs : List Loc) (ls : Array Slot), kW SM G h (aS SM G) s H locs → lv_has ls 8 [(0, .ref (G.2.2 0)), (1, .int x1), (2, .int x2)] → X3 (x2, h) → W p l e rmX12_areTwoEnough s m args below meth c H locs 0 0 (MQ below (va_Qi Q (kB SM G) (aS SM G)) args s 0 0 (aS SM G)) (F0 m 3 ls [])) (hX14 : ∀ (x3 : Int32) (x4 : Int32) (h : hp) (H : Heap) (locs : List Loc) (ls : Array Slot), kW SM G h (aS SM G) s H locs → lv_has ls 8 [(0, .ref (G.2.2 0)), (1, .int x1), (2, .int x2), (3, .int x3), (4, .int x4)] → X14 (x3, x4, h) → W p l e rmX12_areTwoEnough s m args below meth c H locs 0 0 (MQ below (va_Qi Q (kB SM G) (aS SM G)) args s 0 0 (aS SM G)) (F0 m 14 ls [])) (hX42 : ∀ (x7 : Int32) (h : hp) (H : Heap) (locs : List Loc) (ls : Array Slot), kW SM G h (aS SM G) s H locs → lv_has ls 8 [(0, .ref (G.2.2 0)), (1, .int x1), (2, .int x2), (4, .int x4), (5, .long x5), (7, .int x7)] → X42 (x7, h) → W p l e rmX12_areTwoEnough s m args below meth c H locs 0 0 (MQ below (va_Qi Q (kB SM G) (aS SM G)) args s 0 0 (aS SM G)) (F0 m 42 ls [])) {x7 : Int32} {h : hp} {H : Heap} {locs : List Loc} {ls : Array Slot} (hW : kW SM G h (aS SM G) s H locs) (hl : lv_has ls 8 [(0, .ref (G.2.2 0)), (1, .int x1), (2, .int x2), (4, .int x4), (5, .long x5), (7, .int x7)]) (hq : w_X12_areTwoEnough_b42 Q X3 X14 x1 x2 x4 x5 X42 x7 h) : W p l e rmX12_areTwoEnough s m args below meth c H locs 0 0 (MQ below (va_Qi Q (kB SM G) (aS SM G)) args s 0 0 (aS SM G)) (F0 m 42 ls []) := by
  have hx := C.1
  have hb := C.2.1
  unfold w_X12_areTwoEnough_b42 at hq
  refine lv_iload hx hb dX12_areTwoEnough_42 (lv_at hl 5 rfl) ?_
  refine lv_iload_n hx hb dX12_areTwoEnough_44 rfl (lv_at hl 1 rfl) ?_
  refine lv_icmp_ge (tgt := 85) hx hb dX12_areTwoEnough_45 (by decide) (fun c6 => ?_) (fun c6 => ?_)
  · have hq := hq.1 c6
    refine lv_aload_n hx hb dX12_areTwoEnough_85 rfl (lv_at hl 0 rfl) ?_
    refine lv_iload_n hx hb dX12_areTwoEnough_86 rfl (lv_at hl 1 rfl) ?_
    refine k_ci hW (va_runV (As := [.int x1]) (rest := []) (k_fix C) (c_X12_isOneEnough l G h x1 _ hq) (cwV 1 C.2.2.2.2.2.1 (gU_V mw1378 mw1379 mw1380 mw5 mw1381) rfl rfl rfl (by decide +kernel) ⟨Nat.le_of_ble_eq_true rfl, Nat.le_of_ble_eq_true rfl⟩) (k_preV hK hW (shM_lt (rfl : shM 0 = 12) (by decide)) (ceM_12 (rfl : shM 0 = 12)) (q := (RX12, TX12, 73)) rfl) rfl rfl hl.1 rfl (lv_room (Nat.le_of_ble_eq_true rfl)) dX12_areTwoEnough_87 ⟨Nat.le_refl 0, Nat.le_refl 0⟩) (fun r7 h8 H locs hq hW => ?_)
    rw [hq.1] at hW
    have hq := hq.2
    refine lv_istore_n (lv' := [(3, .int r7), (0, .ref (G.2.2 0)), (1, .int x1), (2, .int x2), (4, .int x4), (5, .long x5), (7, .int x7)]) hx hb dX12_areTwoEnough_90 rfl hl (by decide) rfl (fun ls hl => ?_)
    obtain ⟨x4_9, ex4_9⟩ : ∃ y : Int32, y = x4 + 1 := ⟨_, rfl⟩
    have hq := hq x4_9 ex4_9
    refine lv_iinc (v := x4_9) (lv' := [(4, .int x4_9), (3, .int r7), (0, .ref (G.2.2 0)), (1, .int x1), (2, .int x2), (5, .long x5), (7, .int x7)]) hx hb dX12_areTwoEnough_91 hl (k := 4) rfl (by rw [ex4_9]; rfl) (by decide) rfl (fun ls hl => ?_)
    refine lv_goto (tgt := 14) hx hb dX12_areTwoEnough_94 (by decide) ?_
    exact hX14 _ _ _ _ _ _ hW (lv_sub hl [2, 3, 4, 1, 0] rfl) hq
  · have hq := hq.2 c6
    refine lv_aload_n hx hb dX12_areTwoEnough_48 rfl (lv_at hl 0 rfl) ?_
    refine gt12_64 C hK hW (rfl : shM 0 = 12) (List.mem_cons_of_mem _ mw308) (fun _ h9 => List.mem_cons_of_mem _ (inU_wsX120 _ h9)) dX12_areTwoEnough_49 ?_
    refine lv_iload hx hb dX12_areTwoEnough_52 (lv_at hl 5 rfl) ?_
    refine lv_aload_n hx hb dX12_areTwoEnough_54 rfl (lv_at hl 0 rfl) ?_
    refine lv_aload_n hx hb dX12_areTwoEnough_55 rfl (lv_at hl 0 rfl) ?_
    refine gt12_63 C hK hW (rfl : shM 0 = 12) (List.mem_cons_of_mem _ mw307) (fun _ h9 => List.mem_cons_of_mem _ (inU_wsX120 _ h9)) dX12_areTwoEnough_56 ?_
    refine lv_iload hx hb dX12_areTwoEnough_59 (lv_at hl 5 rfl) ?_
    refine k_iald C hK hW (shM_lt (rfl : shM 41 = 14) (by decide)) (ceM_14 (rfl : shM 41 = 14) (rfl : lnM 41 = 24)) hq.1 dX12_areTwoEnough_61 ?_
    have hq := hq.2
    refine lv_iload_n hx hb dX12_areTwoEnough_62 rfl (lv_at hl 2 rfl) ?_
    refine lv_i2l (v := x2.toInt64) hx hb dX12_areTwoEnough_63 rfl ?_
    refine k_cl hW (va_runV (As := [.int (gI h 41 (ix x7)), .long (x2.toInt64)]) (rest := [.int x7, .ref (G.2.2 42)]) (k_fix C) (c_X12_worldComes l G h (gI h 41 (ix x7)) (x2.toInt64) _ hq) (cwV 2 C.2.2.2.2.2.1 (gU_V mw892 mw893 mw894 mw5 mw895) rfl rfl rfl (by decide +kernel) ⟨Nat.le_of_ble_eq_true rfl, Nat.le_of_ble_eq_true rfl⟩) (k_preV hK hW (shM_lt (rfl : shM 0 = 12) (by decide)) (ceM_12 (rfl : shM 0 = 12)) (q := (RX12, TX12, 73)) rfl) rfl rfl hl.1 rfl (lv_room (Nat.le_of_ble_eq_true rfl)) dX12_areTwoEnough_64 ⟨Nat.le_refl 0, Nat.le_refl 0⟩) (fun r10 h11 H locs hq hW => ?_)
    rw [hq.1] at hW
    have hq := hq.2
    refine lv_lload hx hb dX12_areTwoEnough_67 (lv_at hl 4 rfl) ?_
    refine W.lcmp hx hb dX12_areTwoEnough_69 ?_
    refine lv_if_ne (tgt := 77) hx hb dX12_areTwoEnough_70 (by decide) (fun c12 => ?_) (fun c12 => ?_)
    · have hq := hq.1 (fun z => c12 ((lg_cmp_eq _ _).mpr z))
      refine lv_iconst (v := 0) hx hb dX12_areTwoEnough_77 (by decide) ?_
      exact k_X12_areTwoEnough_78 C hK hX3 hX14 hX42 hW (lv_sub hl [0, 1, 2, 3, 4, 5] rfl) hq
    · have hq := hq.2 ((lg_cmp_eq _ _).mp c12)
      refine lv_iconst (v := 1) hx hb dX12_areTwoEnough_73 (by decide) ?_
      refine lv_goto (tgt := 78) hx hb dX12_areTwoEnough_74 (by decide) ?_
      exact k_X12_areTwoEnough_78 C hK hX3 hX14 hX42 hW (lv_sub hl [0, 1, 2, 3, 4, 5] rfl) hq
theorem k_X12_areTwoEnough_42 {Q : Int32 → hp → Prop} {X3 : Int32 × hp → Prop} {X14 : Int32 × Int32 × hp → Prop} {x1 : Int32} {x2 : Int32} {x4 : Int32} {x5 : Int64} (C : kC p s m args meth c cX12_areTwoEnough 8 (some .boolean) RX12 wUX12_areTwoEnough) (hK : kK G s) (hX3 : ∀ (x2 : Int32) (h : hp) (H : Heap) (locs : List Loc) (ls : Array Slot), kW SM G h (aS SM G) s H locs → lv_has ls 8 [(0, .ref (G.2.2 0)), (1, .int x1), (2, .int x2)] → X3 (x2, h) → W p l e rmX12_areTwoEnough s m args below meth c H locs 0 0 (MQ below (va_Qi Q (kB SM G) (aS SM G)) args s 0 0 (aS SM G)) (F0 m 3 ls [])) (hX14 : ∀ (x3 : Int32) (x4 : Int32) (h : hp) (H : Heap) (locs : List Loc) (ls : Array Slot), kW SM G h (aS SM G) s H locs → lv_has ls 8 [(0, .ref (G.2.2 0)), (1, .int x1), (2, .int x2), (3, .int x3), (4, .int x4)] → X14 (x3, x4, h) → W p l e rmX12_areTwoEnough s m args below meth c H locs 0 0 (MQ below (va_Qi Q (kB SM G) (aS SM G)) args s 0 0 (aS SM G)) (F0 m 14 ls [])) {x7 : Int32} {h : hp} {H : Heap} {locs : List Loc} {ls : Array Slot} (hW : kW SM G h (aS SM G) s H locs) (hl : lv_has ls 8 [(0, .ref (G.2.2 0)), (1, .int x1), (2, .int x2), (4, .int x4), (5, .long x5), (7, .int x7)]) (hq : w_X12_areTwoEnough_42 Q X3 X14 x1 x2 x4 x5 x7 h) : W p l e rmX12_areTwoEnough s m args below meth c H locs 0 0 (MQ below (va_Qi Q (kB SM G) (aS SM G)) args s 0 0 (aS SM G)) (F0 m 42 ls []) := by
  have key := hq (fun (q : Int32 × hp) => ∀ (H : Heap) (locs : List Loc) (ls : Array Slot), kW SM G q.2 (aS SM G) s H locs → lv_has ls 8 [(0, .ref (G.2.2 0)), (1, .int x1), (2, .int x2), (4, .int x4), (5, .long x5), (7, .int q.1)] → W p l e rmX12_areTwoEnough s m args below meth c H locs 0 0 (MQ below (va_Qi Q (kB SM G) (aS SM G)) args s 0 0 (aS SM G)) (F0 m 42 ls []))
    (fun q hq H locs ls hW hl => k_X12_areTwoEnough_b42 C hK hX3 hX14 (fun x7 h H locs ls hW hl hI => hI H locs ls hW hl) hW hl hq)
  exact key _ _ _ hW hl
theorem k_X12_areTwoEnough_97 {Q : Int32 → hp → Prop} {X3 : Int32 × hp → Prop} {x1 : Int32} {x2 : Int32} {x3 : Int32} {h : hp} (C : kC p s m args meth c cX12_areTwoEnough 8 (some .boolean) RX12 wUX12_areTwoEnough) (hK : kK G s) (hX3 : ∀ (x2 : Int32) (h : hp) (H : Heap) (locs : List Loc) (ls : Array Slot), kW SM G h (aS SM G) s H locs → lv_has ls 8 [(0, .ref (G.2.2 0)), (1, .int x1), (2, .int x2)] → X3 (x2, h) → W p l e rmX12_areTwoEnough s m args below meth c H locs 0 0 (MQ below (va_Qi Q (kB SM G) (aS SM G)) args s 0 0 (aS SM G)) (F0 m 3 ls [])) {H : Heap} {locs : List Loc} {ls : Array Slot} (hW : kW SM G h (aS SM G) s H locs) (hl : lv_has ls 8 [(0, .ref (G.2.2 0)), (1, .int x1), (2, .int x2), (3, .int x3)]) (hq : w_X12_areTwoEnough_97 Q X3 x1 x2 x3 h) : W p l e rmX12_areTwoEnough s m args below meth c H locs 0 0 (MQ below (va_Qi Q (kB SM G) (aS SM G)) args s 0 0 (aS SM G)) (F0 m 97 ls []) := by
  have hx := C.1
  have hb := C.2.1
  unfold w_X12_areTwoEnough_97 at hq
  refine lv_iload_n hx hb dX12_areTwoEnough_97 rfl (lv_at hl 3 rfl) ?_
  refine lv_if_eq (tgt := 103) hx hb dX12_areTwoEnough_98 (by decide) (fun c15 => ?_) (fun c15 => ?_)
  · have hq := hq.1 c15
    obtain ⟨x2_16, ex2_16⟩ : ∃ y : Int32, y = x2 + 1 := ⟨_, rfl⟩
    have hq := hq x2_16 ex2_16
    refine lv_iinc (v := x2_16) (lv' := [(2, .int x2_16), (0, .ref (G.2.2 0)), (1, .int x1), (3, .int x3)]) hx hb dX12_areTwoEnough_103 hl (k := 2) rfl (by rw [ex2_16]; rfl) (by decide) rfl (fun ls hl => ?_)
    refine lv_goto (tgt := 3) hx hb dX12_areTwoEnough_106 (by decide) ?_
    exact hX3 _ _ _ _ _ hW (lv_sub hl [1, 2, 0] rfl) hq
  · have hq := hq.2 c15
    refine lv_iconst (v := 1) hx hb dX12_areTwoEnough_101 (by decide) ?_
    exact k_zret rfl isZ_1.1 C hW dX12_areTwoEnough_102 hq
theorem k_X12_areTwoEnough_b14 {Q : Int32 → hp → Prop} {X3 : Int32 × hp → Prop} {X14 : Int32 × Int32 × hp → Prop} {x1 : Int32} {x2 : Int32} (C : kC p s m args meth c cX12_areTwoEnough 8 (some .boolean) RX12 wUX12_areTwoEnough) (hK : kK G s) (hX3 : ∀ (x2 : Int32) (h : hp) (H : Heap) (locs : List Loc) (ls : Array Slot), kW SM G h (aS SM G) s H locs → lv_has ls 8 [(0, .ref (G.2.2 0)), (1, .int x1), (2, .int x2)] → X3 (x2, h) → W p l e rmX12_areTwoEnough s m args below meth c H locs 0 0 (MQ below (va_Qi Q (kB SM G) (aS SM G)) args s 0 0 (aS SM G)) (F0 m 3 ls [])) (hX14 : ∀ (x3 : Int32) (x4 : Int32) (h : hp) (H : Heap) (locs : List Loc) (ls : Array Slot), kW SM G h (aS SM G) s H locs → lv_has ls 8 [(0, .ref (G.2.2 0)), (1, .int x1), (2, .int x2), (3, .int x3), (4, .int x4)] → X14 (x3, x4, h) → W p l e rmX12_areTwoEnough s m args below meth c H locs 0 0 (MQ below (va_Qi Q (kB SM G) (aS SM G)) args s 0 0 (aS SM G)) (F0 m 14 ls [])) {x3 : Int32} {x4 : Int32} {h : hp} {H : Heap} {locs : List Loc} {ls : Array Slot} (hW : kW SM G h (aS SM G) s H locs) (hl : lv_has ls 8 [(0, .ref (G.2.2 0)), (1, .int x1), (2, .int x2), (3, .int x3), (4, .int x4)]) (hq : w_X12_areTwoEnough_b14 Q X3 x1 x2 X14 x3 x4 h) : W p l e rmX12_areTwoEnough s m args below meth c H locs 0 0 (MQ below (va_Qi Q (kB SM G) (aS SM G)) args s 0 0 (aS SM G)) (F0 m 14 ls []) := by
  have hx := C.1
  have hb := C.2.1
  unfold w_X12_areTwoEnough_b14 at hq
  refine lv_iload hx hb dX12_areTwoEnough_14 (lv_at hl 4 rfl) ?_
  refine lv_iload_n hx hb dX12_areTwoEnough_16 rfl (lv_at hl 1 rfl) ?_
  refine lv_icmp_ge (tgt := 97) hx hb dX12_areTwoEnough_17 (by decide) (fun c2 => ?_) (fun c2 => ?_)
  · have hq := hq.1 c2
    exact k_X12_areTwoEnough_97 C hK hX3 hW (lv_sub hl [0, 1, 2, 3] rfl) hq
  · have hq := hq.2 c2
    refine lv_iload_n hx hb dX12_areTwoEnough_20 rfl (lv_at hl 3 rfl) ?_
    refine lv_if_eq (tgt := 97) hx hb dX12_areTwoEnough_21 (by decide) (fun c3 => ?_) (fun c3 => ?_)
    · have hq := hq.1 c3
      exact k_X12_areTwoEnough_97 C hK hX3 hW (lv_sub hl [0, 1, 2, 3] rfl) hq
    · have hq := hq.2 c3
      refine lv_aload_n hx hb dX12_areTwoEnough_24 rfl (lv_at hl 0 rfl) ?_
      refine lv_aload_n hx hb dX12_areTwoEnough_25 rfl (lv_at hl 0 rfl) ?_
      refine gt12_63 C hK hW (rfl : shM 0 = 12) (List.mem_cons_of_mem _ mw307) (fun _ h9 => List.mem_cons_of_mem _ (inU_wsX120 _ h9)) dX12_areTwoEnough_26 ?_
      refine lv_iload hx hb dX12_areTwoEnough_29 (lv_at hl 4 rfl) ?_
      refine k_iald C hK hW (shM_lt (rfl : shM 41 = 14) (by decide)) (ceM_14 (rfl : shM 41 = 14) (rfl : lnM 41 = 24)) hq.1 dX12_areTwoEnough_31 ?_
      have hq := hq.2
      refine lv_iload_n hx hb dX12_areTwoEnough_32 rfl (lv_at hl 2 rfl) ?_
      refine lv_i2l (v := x2.toInt64) hx hb dX12_areTwoEnough_33 rfl ?_
      refine k_cl hW (va_runV (As := [.int (gI h 41 (ix x4)), .long (x2.toInt64)]) (rest := []) (k_fix C) (c_X12_worldComes l G h (gI h 41 (ix x4)) (x2.toInt64) _ hq) (cwV 2 C.2.2.2.2.2.1 (gU_V mw892 mw893 mw894 mw5 mw895) rfl rfl rfl (by decide +kernel) ⟨Nat.le_of_ble_eq_true rfl, Nat.le_of_ble_eq_true rfl⟩) (k_preV hK hW (shM_lt (rfl : shM 0 = 12) (by decide)) (ceM_12 (rfl : shM 0 = 12)) (q := (RX12, TX12, 73)) rfl) rfl rfl hl.1 rfl (lv_room (Nat.le_of_ble_eq_true rfl)) dX12_areTwoEnough_34 ⟨Nat.le_refl 0, Nat.le_refl 0⟩) (fun r4 h5 H locs hq hW => ?_)
      rw [hq.1] at hW
      have hq := hq.2
      refine lv_lstore (lv' := [(5, .long r4), (0, .ref (G.2.2 0)), (1, .int x1), (2, .int x2), (3, .int x3), (4, .int x4)]) hx hb dX12_areTwoEnough_37 hl (by decide) rfl (fun ls hl => ?_)
      refine lv_iconst (v := 0) hx hb dX12_areTwoEnough_39 (by decide) ?_
      refine lv_istore (lv' := [(7, .int 0), (5, .long r4), (0, .ref (G.2.2 0)), (1, .int x1), (2, .int x2), (3, .int x3), (4, .int x4)]) hx hb dX12_areTwoEnough_40 hl (by decide) rfl (fun ls hl => ?_)
      exact k_X12_areTwoEnough_42 C hK hX3 hX14 hW (lv_sub hl [2, 3, 4, 6, 1, 0] rfl) hq
theorem k_X12_areTwoEnough_14 {Q : Int32 → hp → Prop} {X3 : Int32 × hp → Prop} {x1 : Int32} {x2 : Int32} (C : kC p s m args meth c cX12_areTwoEnough 8 (some .boolean) RX12 wUX12_areTwoEnough) (hK : kK G s) (hX3 : ∀ (x2 : Int32) (h : hp) (H : Heap) (locs : List Loc) (ls : Array Slot), kW SM G h (aS SM G) s H locs → lv_has ls 8 [(0, .ref (G.2.2 0)), (1, .int x1), (2, .int x2)] → X3 (x2, h) → W p l e rmX12_areTwoEnough s m args below meth c H locs 0 0 (MQ below (va_Qi Q (kB SM G) (aS SM G)) args s 0 0 (aS SM G)) (F0 m 3 ls [])) {x3 : Int32} {x4 : Int32} {h : hp} {H : Heap} {locs : List Loc} {ls : Array Slot} (hW : kW SM G h (aS SM G) s H locs) (hl : lv_has ls 8 [(0, .ref (G.2.2 0)), (1, .int x1), (2, .int x2), (3, .int x3), (4, .int x4)]) (hq : w_X12_areTwoEnough_14 Q X3 x1 x2 x3 x4 h) : W p l e rmX12_areTwoEnough s m args below meth c H locs 0 0 (MQ below (va_Qi Q (kB SM G) (aS SM G)) args s 0 0 (aS SM G)) (F0 m 14 ls []) := by
  have key := hq (fun (q : Int32 × Int32 × hp) => ∀ (H : Heap) (locs : List Loc) (ls : Array Slot), kW SM G q.2.2 (aS SM G) s H locs → lv_has ls 8 [(0, .ref (G.2.2 0)), (1, .int x1), (2, .int x2), (3, .int q.1), (4, .int q.2.1)] → W p l e rmX12_areTwoEnough s m args below meth c H locs 0 0 (MQ below (va_Qi Q (kB SM G) (aS SM G)) args s 0 0 (aS SM G)) (F0 m 14 ls []))
    (fun q hq H locs ls hW hl => k_X12_areTwoEnough_b14 C hK hX3 (fun x3 x4 h H locs ls hW hl hI => hI H locs ls hW hl) hW hl hq)
  exact key _ _ _ hW hl
theorem k_X12_areTwoEnough_b3 {Q : Int32 → hp → Prop} {X3 : Int32 × hp → Prop} {x1 : Int32} (C : kC p s m args meth c cX12_areTwoEnough 8 (some .boolean) RX12 wUX12_areTwoEnough) (hK : kK G s) (hX3 : ∀ (x2 : Int32) (h : hp) (H : Heap) (locs : List Loc) (ls : Array Slot), kW SM G h (aS SM G) s H locs → lv_has ls 8 [(0, .ref (G.2.2 0)), (1, .int x1), (2, .int x2)] → X3 (x2, h) → W p l e rmX12_areTwoEnough s m args below meth c H locs 0 0 (MQ below (va_Qi Q (kB SM G) (aS SM G)) args s 0 0 (aS SM G)) (F0 m 3 ls [])) {x2 : Int32} {h : hp} {H : Heap} {locs : List Loc} {ls : Array Slot} (hW : kW SM G h (aS SM G) s H locs) (hl : lv_has ls 8 [(0, .ref (G.2.2 0)), (1, .int x1), (2, .int x2)]) (hq : w_X12_areTwoEnough_b3 Q x1 X3 x2 h) : W p l e rmX12_areTwoEnough s m args below meth c H locs 0 0 (MQ below (va_Qi Q (kB SM G) (aS SM G)) args s 0 0 (aS SM G)) (F0 m 3 ls []) := by
  have hx := C.1
  have hb := C.2.1
  unfold w_X12_areTwoEnough_b3 at hq
  refine lv_iload_n hx hb dX12_areTwoEnough_3 rfl (lv_at hl 2 rfl) ?_
  refine lv_bipush (v := 10) hx hb dX12_areTwoEnough_4 (by decide) ?_
  refine lv_icmp_ge (tgt := 109) hx hb dX12_areTwoEnough_6 (by decide) (fun c1 => ?_) (fun c1 => ?_)
  · have hq := hq.1 c1
    refine lv_iconst (v := 0) hx hb dX12_areTwoEnough_109 (by decide) ?_
    exact k_zret rfl isZ_0.1 C hW dX12_areTwoEnough_110 hq
  · have hq := hq.2 c1
    refine lv_iconst (v := 1) hx hb dX12_areTwoEnough_9 (by decide) ?_
    refine lv_istore_n (lv' := [(3, .int 1), (0, .ref (G.2.2 0)), (1, .int x1), (2, .int x2)]) hx hb dX12_areTwoEnough_10 rfl hl (by decide) rfl (fun ls hl => ?_)
    refine lv_iconst (v := 0) hx hb dX12_areTwoEnough_11 (by decide) ?_
    refine lv_istore (lv' := [(4, .int 0), (3, .int 1), (0, .ref (G.2.2 0)), (1, .int x1), (2, .int x2)]) hx hb dX12_areTwoEnough_12 hl (by decide) rfl (fun ls hl => ?_)
    exact k_X12_areTwoEnough_14 C hK hX3 hW (lv_sub hl [2, 3, 4, 1, 0] rfl) hq
theorem k_X12_areTwoEnough_3 {Q : Int32 → hp → Prop} {x1 : Int32} (C : kC p s m args meth c cX12_areTwoEnough 8 (some .boolean) RX12 wUX12_areTwoEnough) (hK : kK G s) {x2 : Int32} {h : hp} {H : Heap} {locs : List Loc} {ls : Array Slot} (hW : kW SM G h (aS SM G) s H locs) (hl : lv_has ls 8 [(0, .ref (G.2.2 0)), (1, .int x1), (2, .int x2)]) (hq : w_X12_areTwoEnough_3 Q x1 x2 h) : W p l e rmX12_areTwoEnough s m args below meth c H locs 0 0 (MQ below (va_Qi Q (kB SM G) (aS SM G)) args s 0 0 (aS SM G)) (F0 m 3 ls []) := by
  have key := hq (fun (q : Int32 × hp) => ∀ (H : Heap) (locs : List Loc) (ls : Array Slot), kW SM G q.2 (aS SM G) s H locs → lv_has ls 8 [(0, .ref (G.2.2 0)), (1, .int x1), (2, .int q.1)] → W p l e rmX12_areTwoEnough s m args below meth c H locs 0 0 (MQ below (va_Qi Q (kB SM G) (aS SM G)) args s 0 0 (aS SM G)) (F0 m 3 ls []))
    (fun q hq H locs ls hW hl => k_X12_areTwoEnough_b3 C hK (fun x2 h H locs ls hW hl hI => hI H locs ls hW hl) hW hl hq)
  exact key _ _ _ hW hl
theorem k_X12_areTwoEnough_0 {Q : Int32 → hp → Prop} {x1 : Int32} {h : hp} (C : kC p s m args meth c cX12_areTwoEnough 8 (some .boolean) RX12 wUX12_areTwoEnough) (hK : kK G s) {H : Heap} {locs : List Loc} {ls : Array Slot} (hW : kW SM G h (aS SM G) s H locs) (hl : lv_has ls 8 [(0, .ref (G.2.2 0)), (1, .int x1)]) (hq : w_X12_areTwoEnough_0 Q x1 h) : W p l e rmX12_areTwoEnough s m args below meth c H locs 0 0 (MQ below (va_Qi Q (kB SM G) (aS SM G)) args s 0 0 (aS SM G)) (F0 m 0 ls []) := by
  have hx := C.1
  have hb := C.2.1
  unfold w_X12_areTwoEnough_0 at hq
  refine lv_bipush (v := (-9)) hx hb dX12_areTwoEnough_0 (by decide) ?_
  refine lv_istore_n (lv' := [(2, .int (-9)), (0, .ref (G.2.2 0)), (1, .int x1)]) hx hb dX12_areTwoEnough_2 rfl hl (by decide) rfl (fun ls hl => ?_)
  exact k_X12_areTwoEnough_3 C hK hW (lv_sub hl [1, 2, 0] rfl) hq
theorem c_X12_areTwoEnough (l : Launch) (G : wG) (h : hp) (x1 : Int32) (Q : Int32 → hp → Prop) (hq : w_X12_areTwoEnough h x1 Q) : ctI l SM G yX12_areTwoEnough wUX12_areTwoEnough rmX12_areTwoEnough h [.ref (G.2.2 0), .int x1] Q := by
  refine k_start (cc := cX12_areTwoEnough) (maxL := 8) (rt := (some .boolean)) (own := RX12) (by decide +kernel) rfl rfl (Nat.le_of_ble_eq_true rfl) ?_
  intro p e s m below meth c ls C hK hW hl
  exact k_X12_areTwoEnough_0 C hK hW hl hq
theorem k_X12_enough_b45 {Q : Int32 → hp → Prop} {X45 : Int32 × Int32 × hp → Prop} {x4 : Int32} (C : kC p s m args meth c cX12_enough 7 (some .int) RX12 wUX12_enough) (hK : kK G s) (hX45 : ∀ (x5 : Int32) (x6 : Int32) (h : hp) (H : Heap) (locs : List Loc) (ls : Array Slot), kW SM G h (aS SM G) s H locs → lv_has ls 7 [(0, .ref (G.2.2 0)), (4, .int x4), (5, .int x5), (6, .int x6)] → X45 (x5, x6, h) → W p l e rmX12_enough s m args below meth c H locs 0 0 (MQ below (va_Qi Q (kB SM G) (aS SM G)) args s 0 0 (aS SM G)) (F0 m 45 ls [])) {x5 : Int32} {x6 : Int32} {h : hp} {H : Heap} {locs : List Loc} {ls : Array Slot} (hW : kW SM G h (aS SM G) s H locs) (hl : lv_has ls 7 [(0, .ref (G.2.2 0)), (4, .int x4), (5, .int x5), (6, .int x6)]) (hq : w_X12_enough_b45 Q x4 X45 x5 x6 h) : W p l e rmX12_enough s m args below meth c H locs 0 0 (MQ below (va_Qi Q (kB SM G) (aS SM G)) args s 0 0 (aS SM G)) (F0 m 45 ls []) := by
  have hx := C.1
  have hb := C.2.1
  unfold w_X12_enough_b45 at hq
  refine lv_iload hx hb dX12_enough_45 (lv_at hl 3 rfl) ?_
  refine lv_aload_n hx hb dX12_enough_47 rfl (lv_at hl 0 rfl) ?_
  refine k_ci hW (va_runV (As := []) (rest := [.int x6]) (k_fix C) (c_X12_worldAll l G h _ hq) (cwV 0 C.2.2.2.2.2.1 (gU_V mw888 mw889 mw890 mw5 mw891) rfl rfl rfl (by decide +kernel) ⟨Nat.le_of_ble_eq_true rfl, Nat.le_of_ble_eq_true rfl⟩) (k_preV hK hW (shM_lt (rfl : shM 0 = 12) (by decide)) (ceM_12 (rfl : shM 0 = 12)) (q := (RX12, TX12, 73)) rfl) rfl rfl hl.1 rfl (lv_room (Nat.le_of_ble_eq_true rfl)) dX12_enough_48 ⟨Nat.le_refl 0, Nat.le_refl 0⟩) (fun r8 h9 H locs hq hW => ?_)
  rw [hq.1] at hW
  have hq := hq.2
  refine lv_icmp_ge (tgt := 93) hx hb dX12_enough_51 (by decide) (fun c10 => ?_) (fun c10 => ?_)
  · have hq := hq.1 c10
    refine lv_aload_n hx hb dX12_enough_93 rfl (lv_at hl 0 rfl) ?_
    refine lv_iload hx hb dX12_enough_94 (lv_at hl 1 rfl) ?_
    refine k_ci hW (va_runV (As := [.int x4]) (rest := []) (k_fix C) (c_X12_isOneEnough l G h x4 _ hq) (cwV 1 C.2.2.2.2.2.1 (gU_V mw1378 mw1379 mw1380 mw5 mw1381) rfl rfl rfl (by decide +kernel) ⟨Nat.le_of_ble_eq_true rfl, Nat.le_of_ble_eq_true rfl⟩) (k_preV hK hW (shM_lt (rfl : shM 0 = 12) (by decide)) (ceM_12 (rfl : shM 0 = 12)) (q := (RX12, TX12, 73)) rfl) rfl rfl hl.1 rfl (lv_room (Nat.le_of_ble_eq_true rfl)) dX12_enough_96 ⟨Nat.le_refl 0, Nat.le_refl 0⟩) (fun r11 h12 H locs hq hW => ?_)
    rw [hq.1] at hW
    have hq := hq.2
    refine lv_if_eq (tgt := 106) hx hb dX12_enough_99 (by decide) (fun c13 => ?_) (fun c13 => ?_)
    · have hq := hq.1 c13
      refine lv_aload_n hx hb dX12_enough_106 rfl (lv_at hl 0 rfl) ?_
      refine lv_iload hx hb dX12_enough_107 (lv_at hl 1 rfl) ?_
      refine k_ci hW (va_runV (As := [.int x4]) (rest := []) (k_fix C) (c_X12_areTwoEnough l G h x4 _ hq) (cwV 1 C.2.2.2.2.2.1 (gU_V mw1382 mw1383 mw1384 mw5 mw1385) rfl rfl rfl (by decide +kernel) ⟨Nat.le_of_ble_eq_true rfl, Nat.le_of_ble_eq_true rfl⟩) (k_preV hK hW (shM_lt (rfl : shM 0 = 12) (by decide)) (ceM_12 (rfl : shM 0 = 12)) (q := (RX12, TX12, 73)) rfl) rfl rfl hl.1 rfl (lv_room (Nat.le_of_ble_eq_true rfl)) dX12_enough_109 ⟨Nat.le_refl 0, Nat.le_refl 0⟩) (fun r15 h14 H locs hq hW => ?_)
      refine lv_if_eq (tgt := 119) hx hb dX12_enough_112 (by decide) (fun c16 => ?_) (fun c16 => ?_)
      · have hq := hq.1 c16
        refine lv_iconst (v := 3) hx hb dX12_enough_119 (by decide) ?_
        exact k_iret rfl C hW dX12_enough_120 hq
      · have hq := hq.2 c16
        refine lv_iconst (v := 2) hx hb dX12_enough_115 (by decide) ?_
        refine lv_goto (tgt := 120) hx hb dX12_enough_116 (by decide) ?_
        exact k_iret rfl C hW dX12_enough_120 hq
    · have hq := hq.2 c13
      refine lv_iconst (v := 1) hx hb dX12_enough_102 (by decide) ?_
      refine lv_goto (tgt := 120) hx hb dX12_enough_103 (by decide) ?_
      exact k_iret rfl C hW dX12_enough_120 hq
  · have hq := hq.2 c10
    refine lv_aload_n hx hb dX12_enough_54 rfl (lv_at hl 0 rfl) ?_
    refine gt12_60 C hK hW (rfl : shM 0 = 12) (List.mem_cons_of_mem _ mw305) (fun _ h9 => List.mem_cons_of_mem _ (inU_wsX120 _ h9)) dX12_enough_55 ?_
    refine lv_iload hx hb dX12_enough_58 (lv_at hl 3 rfl) ?_
    refine k_zald C hK hW (shM_lt (rfl : shM 40 = 16) (by decide)) (ceM_16 (rfl : shM 40 = 16) (rfl : lnM 40 = 10000)) hq.1 dX12_enough_60 ?_
    have hq := hq.2
    refine lv_if_ne (tgt := 67) hx hb dX12_enough_61 (by decide) (fun c17 => ?_) (fun c17 => ?_)
    · have hq := hq.1 c17
      refine lv_aload_n hx hb dX12_enough_67 rfl (lv_at hl 0 rfl) ?_
      refine gt12_63 C hK hW (rfl : shM 0 = 12) (List.mem_cons_of_mem _ mw307) (fun _ h9 => List.mem_cons_of_mem _ (inU_wsX120 _ h9)) dX12_enough_68 ?_
      refine lv_iload hx hb dX12_enough_71 (lv_at hl 2 rfl) ?_
      refine lv_iload hx hb dX12_enough_73 (lv_at hl 3 rfl) ?_
      refine k_iast okM C hK hW (shM_lt (rfl : shM 41 = 14) (by decide)) (fun g9 => ceM_14 (rfl : shM 41 = 14) (rfl : lnM 41 = 24)) hq.1 dX12_enough_75 (fun H locs hW => ?_)
      have hq := hq.2
      obtain ⟨h18, eh18⟩ : ∃ z : hp, z = sI h 41 (ix x5) x6 := ⟨_, rfl⟩
      rw [← eh18] at hW
      have hq := hq h18 eh18
      refine lv_aload_n hx hb dX12_enough_76 rfl (lv_at hl 0 rfl) ?_
      refine gt12_64 C hK hW (rfl : shM 0 = 12) (List.mem_cons_of_mem _ mw308) (fun _ h9 => List.mem_cons_of_mem _ (inU_wsX120 _ h9)) dX12_enough_77 ?_
      refine lv_iload hx hb dX12_enough_80 (lv_at hl 2 rfl) ?_
      refine lv_iconst (v := 1) hx hb dX12_enough_82 (by decide) ?_
      refine k_zast okM C hK hW (shM_lt (rfl : shM 42 = 16) (by decide)) (fun g9 => ceM_16 (rfl : shM 42 = 16) (rfl : lnM 42 = 24)) hq.1 dX12_enough_83 (fun H locs hW => ?_)
      have hq := hq.2
      obtain ⟨h19, eh19⟩ : ∃ z : hp, z = sI h18 42 (ix x5) (jz 1) := ⟨_, rfl⟩
      rw [← eh19] at hW
      have hq := hq h19 eh19
      obtain ⟨x5_20, ex5_20⟩ : ∃ y : Int32, y = x5 + 1 := ⟨_, rfl⟩
      have hq := hq x5_20 ex5_20
      refine lv_iinc (v := x5_20) (lv' := [(5, .int x5_20), (0, .ref (G.2.2 0)), (4, .int x4), (6, .int x6)]) hx hb dX12_enough_84 hl (k := 2) rfl (by rw [ex5_20]; rfl) (by decide) rfl (fun ls hl => ?_)
      obtain ⟨x6_21, ex6_21⟩ : ∃ y : Int32, y = x6 + 1 := ⟨_, rfl⟩
      have hq := hq x6_21 ex6_21
      refine lv_iinc (v := x6_21) (lv' := [(6, .int x6_21), (5, .int x5_20), (0, .ref (G.2.2 0)), (4, .int x4)]) hx hb dX12_enough_87 hl (k := 3) rfl (by rw [ex6_21]; rfl) (by decide) rfl (fun ls hl => ?_)
      refine lv_goto (tgt := 45) hx hb dX12_enough_90 (by decide) ?_
      exact hX45 _ _ _ _ _ _ hW (lv_sub hl [2, 3, 1, 0] rfl) hq
    · have hq := hq.2 c17
      refine lv_goto (tgt := 87) hx hb dX12_enough_64 (by decide) ?_
      obtain ⟨x6_22, ex6_22⟩ : ∃ y : Int32, y = x6 + 1 := ⟨_, rfl⟩
      have hq := hq x6_22 ex6_22
      refine lv_iinc (v := x6_22) (lv' := [(6, .int x6_22), (0, .ref (G.2.2 0)), (4, .int x4), (5, .int x5)]) hx hb dX12_enough_87 hl (k := 3) rfl (by rw [ex6_22]; rfl) (by decide) rfl (fun ls hl => ?_)
      refine lv_goto (tgt := 45) hx hb dX12_enough_90 (by decide) ?_
      exact hX45 _ _ _ _ _ _ hW (lv_sub hl [1, 2, 3, 0] rfl) hq
theorem k_X12_enough_45 {Q : Int32 → hp → Prop} {x4 : Int32} (C : kC p s m args meth c cX12_enough 7 (some .int) RX12 wUX12_enough) (hK : kK G s) {x5 : Int32} {x6 : Int32} {h : hp} {H : Heap} {locs : List Loc} {ls : Array Slot} (hW : kW SM G h (aS SM G) s H locs) (hl : lv_has ls 7 [(0, .ref (G.2.2 0)), (4, .int x4), (5, .int x5), (6, .int x6)]) (hq : w_X12_enough_45 Q x4 x5 x6 h) : W p l e rmX12_enough s m args below meth c H locs 0 0 (MQ below (va_Qi Q (kB SM G) (aS SM G)) args s 0 0 (aS SM G)) (F0 m 45 ls []) := by
  have key := hq (fun (q : Int32 × Int32 × hp) => ∀ (H : Heap) (locs : List Loc) (ls : Array Slot), kW SM G q.2.2 (aS SM G) s H locs → lv_has ls 7 [(0, .ref (G.2.2 0)), (4, .int x4), (5, .int q.1), (6, .int q.2.1)] → W p l e rmX12_enough s m args below meth c H locs 0 0 (MQ below (va_Qi Q (kB SM G) (aS SM G)) args s 0 0 (aS SM G)) (F0 m 45 ls []))
    (fun q hq H locs ls hW hl => k_X12_enough_b45 C hK (fun x5 x6 h H locs ls hW hl hI => hI H locs ls hW hl) hW hl hq)
  exact key _ _ _ hW hl
theorem k_X12_enough_0 {Q : Int32 → hp → Prop} {x1 : Int32} {x2 : Int32} {x3 : Int32} {h : hp} (C : kC p s m args meth c cX12_enough 7 (some .int) RX12 wUX12_enough) (hK : kK G s) {H : Heap} {locs : List Loc} {ls : Array Slot} (hW : kW SM G h (aS SM G) s H locs) (hl : lv_has ls 7 [(0, .ref (G.2.2 0)), (1, .int x1), (2, .int x2), (3, .int x3)]) (hq : w_X12_enough_0 Q x1 x2 x3 h) : W p l e rmX12_enough s m args below meth c H locs 0 0 (MQ below (va_Qi Q (kB SM G) (aS SM G)) args s 0 0 (aS SM G)) (F0 m 0 ls []) := by
  have hx := C.1
  have hb := C.2.1
  unfold w_X12_enough_0 at hq
  refine lv_aload_n hx hb dX12_enough_0 rfl (lv_at hl 0 rfl) ?_
  refine lv_iload_n hx hb dX12_enough_1 rfl (lv_at hl 1 rfl) ?_
  refine lv_iload_n hx hb dX12_enough_2 rfl (lv_at hl 2 rfl) ?_
  refine lv_iload_n hx hb dX12_enough_3 rfl (lv_at hl 3 rfl) ?_
  refine k_ci hW (va_runV (As := [.int x1, .int x2, .int x3]) (rest := []) (k_fix C) (c_X12_isAsked l G h x1 x2 x3 _ hq) (cwV 3 C.2.2.2.2.2.1 (gU_V mw988 mw989 mw990 mw5 mw991) rfl rfl rfl (by decide +kernel) ⟨Nat.le_of_ble_eq_true rfl, Nat.le_of_ble_eq_true rfl⟩) (k_preV hK hW (shM_lt (rfl : shM 0 = 12) (by decide)) (ceM_12 (rfl : shM 0 = 12)) (q := (RX12, TX12, 73)) rfl) rfl rfl hl.1 rfl (lv_room (Nat.le_of_ble_eq_true rfl)) dX12_enough_4 ⟨Nat.le_refl 0, Nat.le_refl 0⟩) (fun r1 h2 H locs hq hW => ?_)
  rw [hq.1] at hW
  have hq := hq.2
  refine lv_if_ne (tgt := 12) hx hb dX12_enough_7 (by decide) (fun c3 => ?_) (fun c3 => ?_)
  · have hq := hq.1 c3
    refine lv_aload_n hx hb dX12_enough_12 rfl (lv_at hl 0 rfl) ?_
    refine lv_iload_n hx hb dX12_enough_13 rfl (lv_at hl 1 rfl) ?_
    refine lv_iload_n hx hb dX12_enough_14 rfl (lv_at hl 2 rfl) ?_
    refine lv_iload_n hx hb dX12_enough_15 rfl (lv_at hl 3 rfl) ?_
    refine k_ci hW (va_runV (As := [.int x1, .int x2, .int x3]) (rest := []) (k_fix C) (c_X12_fillsFits l G h x1 x2 x3 _ hq) (cwV 3 C.2.2.2.2.2.1 (gU_V mw994 mw995 mw996 mw5 mw997) rfl rfl rfl (by decide +kernel) ⟨Nat.le_of_ble_eq_true rfl, Nat.le_of_ble_eq_true rfl⟩) (k_preV hK hW (shM_lt (rfl : shM 0 = 12) (by decide)) (ceM_12 (rfl : shM 0 = 12)) (q := (RX12, TX12, 73)) rfl) rfl rfl hl.1 rfl (lv_room (Nat.le_of_ble_eq_true rfl)) dX12_enough_16 ⟨Nat.le_refl 0, Nat.le_refl 0⟩) (fun r5 h4 H locs hq hW => ?_)
    refine lv_istore (lv' := [(4, .int r5), (0, .ref (G.2.2 0)), (1, .int x1), (2, .int x2), (3, .int x3)]) hx hb dX12_enough_19 hl (by decide) rfl (fun ls hl => ?_)
    refine lv_iload hx hb dX12_enough_21 (lv_at hl 0 rfl) ?_
    refine lv_bipush (v := 24) hx hb dX12_enough_23 (by decide) ?_
    refine lv_icmp_le (tgt := 31) hx hb dX12_enough_25 (by decide) (fun c6 => ?_) (fun c6 => ?_)
    · have hq := hq.1 c6
      refine lv_iload hx hb dX12_enough_31 (lv_at hl 0 rfl) ?_
      refine lv_iconst (v := 2) hx hb dX12_enough_33 (by decide) ?_
      refine lv_icmp_ge (tgt := 39) hx hb dX12_enough_34 (by decide) (fun c7 => ?_) (fun c7 => ?_)
      · have hq := hq.1 c7
        refine lv_iconst (v := 0) hx hb dX12_enough_39 (by decide) ?_
        refine lv_istore (lv' := [(5, .int 0), (4, .int r5), (0, .ref (G.2.2 0)), (1, .int x1), (2, .int x2), (3, .int x3)]) hx hb dX12_enough_40 hl (by decide) rfl (fun ls hl => ?_)
        refine lv_iconst (v := 0) hx hb dX12_enough_42 (by decide) ?_
        refine lv_istore (lv' := [(6, .int 0), (5, .int 0), (4, .int r5), (0, .ref (G.2.2 0)), (1, .int x1), (2, .int x2), (3, .int x3)]) hx hb dX12_enough_43 hl (by decide) rfl (fun ls hl => ?_)
        exact k_X12_enough_45 C hK hW (lv_sub hl [3, 2, 1, 0] rfl) hq
      · have hq := hq.2 c7
        refine lv_iconst (v := 0) hx hb dX12_enough_37 (by decide) ?_
        exact k_iret rfl C hW dX12_enough_38 hq
    · have hq := hq.2 c6
      refine lv_bipush (v := (-2)) hx hb dX12_enough_28 (by decide) ?_
      exact k_iret rfl C hW dX12_enough_30 hq
  · have hq := hq.2 c3
    refine lv_iconst (v := (-1)) hx hb dX12_enough_10 (by decide) ?_
    exact k_iret rfl C hW dX12_enough_11 hq
theorem c_X12_enough (l : Launch) (G : wG) (h : hp) (x1 : Int32) (x2 : Int32) (x3 : Int32) (Q : Int32 → hp → Prop) (hq : w_X12_enough h x1 x2 x3 Q) : ctI l SM G yX12_enough wUX12_enough rmX12_enough h [.ref (G.2.2 0), .int x1, .int x2, .int x3] Q := by
  refine k_start (cc := cX12_enough) (maxL := 7) (rt := (some .int)) (own := RX12) (by decide +kernel) rfl rfl (Nat.le_of_ble_eq_true rfl) ?_
  intro p e s m below meth c ls C hK hW hl
  exact k_X12_enough_0 C hK hW hl hq
theorem k_X12_plays_b109 {Q : hp → Prop} {X43 : Int32 × Int64 × Int32 × hp → Prop} {X109 : Int32 × Int32 × hp → Prop} {x1 : Int32} {x3 : Int32} {x4 : Int64} {x6 : Int32} (C : kC p s m args meth c cX12_plays 8 none RX12 wUX12_plays) (hK : kK G s) (hX43 : ∀ (x2 : Int32) (x4 : Int64) (x6 : Int32) (h : hp) (H : Heap) (locs : List Loc) (ls : Array Slot), kW SM G h (aS SM G) s H locs → lv_has ls 8 [(0, .ref (G.2.2 0)), (1, .int x1), (2, .int x2), (3, .int x3), (4, .long x4), (6, .int x6)] → X43 (x2, x4, x6, h) → W p l e rmX12_plays s m args below meth c H locs 0 0 (MQ below (va_Qv Q (kB SM G) (aS SM G)) args s 0 0 (aS SM G)) (F0 m 43 ls [])) (hX109 : ∀ (x2 : Int32) (x7 : Int32) (h : hp) (H : Heap) (locs : List Loc) (ls : Array Slot), kW SM G h (aS SM G) s H locs → lv_has ls 8 [(0, .ref (G.2.2 0)), (1, .int x1), (2, .int x2), (3, .int x3), (4, .long x4), (6, .int x6), (7, .int x7)] → X109 (x2, x7, h) → W p l e rmX12_plays s m args below meth c H locs 0 0 (MQ below (va_Qv Q (kB SM G) (aS SM G)) args s 0 0 (aS SM G)) (F0 m 109 ls [])) {x2 : Int32} {x7 : Int32} {h : hp} {H : Heap} {locs : List Loc} {ls : Array Slot} (hW : kW SM G h (aS SM G) s H locs) (hl : lv_has ls 8 [(0, .ref (G.2.2 0)), (1, .int x1), (2, .int x2), (3, .int x3), (4, .long x4), (6, .int x6), (7, .int x7)]) (hq : w_X12_plays_b109 Q X43 x1 x3 x4 x6 X109 x2 x7 h) : W p l e rmX12_plays s m args below meth c H locs 0 0 (MQ below (va_Qv Q (kB SM G) (aS SM G)) args s 0 0 (aS SM G)) (F0 m 109 ls []) := by
  have hx := C.1
  have hb := C.2.1
  unfold w_X12_plays_b109 at hq
  refine lv_iload hx hb dX12_plays_109 (lv_at hl 6 rfl) ?_
  refine lv_iload_n hx hb dX12_plays_111 rfl (lv_at hl 3 rfl) ?_
  refine lv_icmp_ge (tgt := 160) hx hb dX12_plays_112 (by decide) (fun c18 => ?_) (fun c18 => ?_)
  · have hq := hq.1 c18
    refine lv_goto (tgt := 43) hx hb dX12_plays_160 (by decide) ?_
    exact hX43 _ _ _ _ _ _ _ hW (lv_sub hl [0, 1, 2, 3, 4, 5] rfl) hq
  · have hq := hq.2 c18
    refine lv_aload_n hx hb dX12_plays_115 rfl (lv_at hl 0 rfl) ?_
    refine gt12_60 C hK hW (rfl : shM 0 = 12) (List.mem_cons_of_mem _ mw305) (fun _ h9 => List.mem_cons_of_mem _ (inU_wsX120 _ h9)) dX12_plays_116 ?_
    refine lv_iload hx hb dX12_plays_119 (lv_at hl 6 rfl) ?_
    refine k_zald C hK hW (shM_lt (rfl : shM 40 = 16) (by decide)) (ceM_16 (rfl : shM 40 = 16) (rfl : lnM 40 = 10000)) hq.1 dX12_plays_121 ?_
    have hq := hq.2
    refine lv_if_eq (tgt := 154) hx hb dX12_plays_122 (by decide) (fun c19 => ?_) (fun c19 => ?_)
    · have hq := hq.1 c19
      obtain ⟨x7_20, ex7_20⟩ : ∃ y : Int32, y = x7 + 1 := ⟨_, rfl⟩
      have hq := hq x7_20 ex7_20
      refine lv_iinc (v := x7_20) (lv' := [(7, .int x7_20), (0, .ref (G.2.2 0)), (1, .int x1), (2, .int x2), (3, .int x3), (4, .long x4), (6, .int x6)]) hx hb dX12_plays_154 hl (k := 6) rfl (by rw [ex7_20]; rfl) (by decide) rfl (fun ls hl => ?_)
      refine lv_goto (tgt := 109) hx hb dX12_plays_157 (by decide) ?_
      exact hX109 _ _ _ _ _ _ hW (lv_sub hl [1, 2, 3, 4, 5, 6, 0] rfl) hq
    · have hq := hq.2 c19
      refine lv_aload_n hx hb dX12_plays_125 rfl (lv_at hl 0 rfl) ?_
      refine lv_iload hx hb dX12_plays_126 (lv_at hl 6 rfl) ?_
      refine lv_iload hx hb dX12_plays_128 (lv_at hl 5 rfl) ?_
      refine lv_i2l (v := x6.toInt64) hx hb dX12_plays_130 rfl ?_
      refine k_cl hW (va_runV (As := [.int x7, .long (x6.toInt64)]) (rest := []) (k_fix C) (c_X12_worldComes l G h x7 (x6.toInt64) _ hq) (cwV 2 C.2.2.2.2.2.1 (gU_V mw892 mw893 mw894 mw5 mw895) rfl rfl rfl (by decide +kernel) ⟨Nat.le_of_ble_eq_true rfl, Nat.le_of_ble_eq_true rfl⟩) (k_preV hK hW (shM_lt (rfl : shM 0 = 12) (by decide)) (ceM_12 (rfl : shM 0 = 12)) (q := (RX12, TX12, 73)) rfl) rfl rfl hl.1 rfl (lv_room (Nat.le_of_ble_eq_true rfl)) dX12_plays_131 ⟨Nat.le_refl 0, Nat.le_refl 0⟩) (fun r21 h22 H locs hq hW => ?_)
      rw [hq.1] at hW
      have hq := hq.2
      refine lv_lload hx hb dX12_plays_134 (lv_at hl 4 rfl) ?_
      refine W.lcmp hx hb dX12_plays_136 ?_
      refine lv_if_ne (tgt := 143) hx hb dX12_plays_137 (by decide) (fun c23 => ?_) (fun c23 => ?_)
      · have hq := hq.1 (fun z => c23 ((lg_cmp_eq _ _).mpr z))
        refine lv_aload_n hx hb dX12_plays_143 rfl (lv_at hl 0 rfl) ?_
        refine gt12_60 C hK hW (rfl : shM 0 = 12) (List.mem_cons_of_mem _ mw305) (fun _ h9 => List.mem_cons_of_mem _ (inU_wsX120 _ h9)) dX12_plays_144 ?_
        refine lv_iload hx hb dX12_plays_147 (lv_at hl 6 rfl) ?_
        refine lv_iconst (v := 0) hx hb dX12_plays_149 (by decide) ?_
        refine k_zast okM C hK hW (shM_lt (rfl : shM 40 = 16) (by decide)) (fun g9 => ceM_16 (rfl : shM 40 = 16) (rfl : lnM 40 = 10000)) hq.1 dX12_plays_150 (fun H locs hW => ?_)
        have hq := hq.2
        obtain ⟨h24, eh24⟩ : ∃ z : hp, z = sI h 40 (ix x7) (jz 0) := ⟨_, rfl⟩
        rw [← eh24] at hW
        have hq := hq h24 eh24
        obtain ⟨x2_25, ex2_25⟩ : ∃ y : Int32, y = x2 + (-1) := ⟨_, rfl⟩
        have hq := hq x2_25 ex2_25
        refine lv_iinc (v := x2_25) (lv' := [(2, .int x2_25), (0, .ref (G.2.2 0)), (1, .int x1), (3, .int x3), (4, .long x4), (6, .int x6), (7, .int x7)]) hx hb dX12_plays_151 hl (k := 2) rfl (by rw [ex2_25]; rfl) (by decide) rfl (fun ls hl => ?_)
        obtain ⟨x7_26, ex7_26⟩ : ∃ y : Int32, y = x7 + 1 := ⟨_, rfl⟩
        have hq := hq x7_26 ex7_26
        refine lv_iinc (v := x7_26) (lv' := [(7, .int x7_26), (2, .int x2_25), (0, .ref (G.2.2 0)), (1, .int x1), (3, .int x3), (4, .long x4), (6, .int x6)]) hx hb dX12_plays_154 hl (k := 6) rfl (by rw [ex7_26]; rfl) (by decide) rfl (fun ls hl => ?_)
        refine lv_goto (tgt := 109) hx hb dX12_plays_157 (by decide) ?_
        exact hX109 _ _ _ _ _ _ hW (lv_sub hl [2, 3, 1, 4, 5, 6, 0] rfl) hq
      · have hq := hq.2 ((lg_cmp_eq _ _).mp c23)
        refine lv_goto (tgt := 154) hx hb dX12_plays_140 (by decide) ?_
        obtain ⟨x7_27, ex7_27⟩ : ∃ y : Int32, y = x7 + 1 := ⟨_, rfl⟩
        have hq := hq x7_27 ex7_27
        refine lv_iinc (v := x7_27) (lv' := [(7, .int x7_27), (0, .ref (G.2.2 0)), (1, .int x1), (2, .int x2), (3, .int x3), (4, .long x4), (6, .int x6)]) hx hb dX12_plays_154 hl (k := 6) rfl (by rw [ex7_27]; rfl) (by decide) rfl (fun ls hl => ?_)
        refine lv_goto (tgt := 109) hx hb dX12_plays_157 (by decide) ?_
        exact hX109 _ _ _ _ _ _ hW (lv_sub hl [1, 2, 3, 4, 5, 6, 0] rfl) hq
theorem k_X12_plays_109 {Q : hp → Prop} {X43 : Int32 × Int64 × Int32 × hp → Prop} {x1 : Int32} {x3 : Int32} {x4 : Int64} {x6 : Int32} (C : kC p s m args meth c cX12_plays 8 none RX12 wUX12_plays) (hK : kK G s) (hX43 : ∀ (x2 : Int32) (x4 : Int64) (x6 : Int32) (h : hp) (H : Heap) (locs : List Loc) (ls : Array Slot), kW SM G h (aS SM G) s H locs → lv_has ls 8 [(0, .ref (G.2.2 0)), (1, .int x1), (2, .int x2), (3, .int x3), (4, .long x4), (6, .int x6)] → X43 (x2, x4, x6, h) → W p l e rmX12_plays s m args below meth c H locs 0 0 (MQ below (va_Qv Q (kB SM G) (aS SM G)) args s 0 0 (aS SM G)) (F0 m 43 ls [])) {x2 : Int32} {x7 : Int32} {h : hp} {H : Heap} {locs : List Loc} {ls : Array Slot} (hW : kW SM G h (aS SM G) s H locs) (hl : lv_has ls 8 [(0, .ref (G.2.2 0)), (1, .int x1), (2, .int x2), (3, .int x3), (4, .long x4), (6, .int x6), (7, .int x7)]) (hq : w_X12_plays_109 Q X43 x1 x3 x4 x6 x2 x7 h) : W p l e rmX12_plays s m args below meth c H locs 0 0 (MQ below (va_Qv Q (kB SM G) (aS SM G)) args s 0 0 (aS SM G)) (F0 m 109 ls []) := by
  have key := hq (fun (q : Int32 × Int32 × hp) => ∀ (H : Heap) (locs : List Loc) (ls : Array Slot), kW SM G q.2.2 (aS SM G) s H locs → lv_has ls 8 [(0, .ref (G.2.2 0)), (1, .int x1), (2, .int q.1), (3, .int x3), (4, .long x4), (6, .int x6), (7, .int q.2.1)] → W p l e rmX12_plays s m args below meth c H locs 0 0 (MQ below (va_Qv Q (kB SM G) (aS SM G)) args s 0 0 (aS SM G)) (F0 m 109 ls []))
    (fun q hq H locs ls hW hl => k_X12_plays_b109 C hK hX43 (fun x2 x7 h H locs ls hW hl hI => hI H locs ls hW hl) hW hl hq)
  exact key _ _ _ hW hl
theorem k_X12_plays_163 {Q : hp → Prop} {x2 : Int32} {h : hp} (C : kC p s m args meth c cX12_plays 8 none RX12 wUX12_plays) (hK : kK G s) {H : Heap} {locs : List Loc} {ls : Array Slot} (hW : kW SM G h (aS SM G) s H locs) (hl : lv_has ls 8 [(0, .ref (G.2.2 0)), (2, .int x2)]) (hq : w_X12_plays_163 Q x2 h) : W p l e rmX12_plays s m args below meth c H locs 0 0 (MQ below (va_Qv Q (kB SM G) (aS SM G)) args s 0 0 (aS SM G)) (F0 m 163 ls []) := by
  have hx := C.1
  have hb := C.2.1
  unfold w_X12_plays_163 at hq
  refine lv_iload_n hx hb dX12_plays_163 rfl (lv_at hl 1 rfl) ?_
  refine lv_iconst (v := 1) hx hb dX12_plays_164 (by decide) ?_
  refine lv_icmp_le (tgt := 174) hx hb dX12_plays_165 (by decide) (fun c28 => ?_) (fun c28 => ?_)
  · have hq := hq.1 c28
    exact k_vret rfl C hW dX12_plays_174 hq
  · have hq := hq.2 c28
    refine lv_aload_n hx hb dX12_plays_168 rfl (lv_at hl 0 rfl) ?_
    refine lv_bipush (v := (-2)) hx hb dX12_plays_169 (by decide) ?_
    refine pt12_65 C hK hW (rfl : shM 0 = 12) (List.mem_cons_of_mem _ mw1151) (fun _ h9 => List.mem_cons_of_mem _ (inU_wsX120 _ h9)) dX12_plays_171 (fun h29 H locs eh29 hW => ?_)
    have hq := hq h29 eh29
    exact k_vret rfl C hW dX12_plays_174 hq
theorem k_X12_plays_b43 {Q : hp → Prop} {X43 : Int32 × Int64 × Int32 × hp → Prop} {x1 : Int32} {x3 : Int32} (C : kC p s m args meth c cX12_plays 8 none RX12 wUX12_plays) (hK : kK G s) (hX43 : ∀ (x2 : Int32) (x4 : Int64) (x6 : Int32) (h : hp) (H : Heap) (locs : List Loc) (ls : Array Slot), kW SM G h (aS SM G) s H locs → lv_has ls 8 [(0, .ref (G.2.2 0)), (1, .int x1), (2, .int x2), (3, .int x3), (4, .long x4), (6, .int x6)] → X43 (x2, x4, x6, h) → W p l e rmX12_plays s m args below meth c H locs 0 0 (MQ below (va_Qv Q (kB SM G) (aS SM G)) args s 0 0 (aS SM G)) (F0 m 43 ls [])) {x2 : Int32} {x4 : Int64} {x6 : Int32} {h : hp} {H : Heap} {locs : List Loc} {ls : Array Slot} (hW : kW SM G h (aS SM G) s H locs) (hl : lv_has ls 8 [(0, .ref (G.2.2 0)), (1, .int x1), (2, .int x2), (3, .int x3), (4, .long x4), (6, .int x6)]) (hq : w_X12_plays_b43 Q x1 x3 X43 x2 x4 x6 h) : W p l e rmX12_plays s m args below meth c H locs 0 0 (MQ below (va_Qv Q (kB SM G) (aS SM G)) args s 0 0 (aS SM G)) (F0 m 43 ls []) := by
  have hx := C.1
  have hb := C.2.1
  unfold w_X12_plays_b43 at hq
  refine lv_iload_n hx hb dX12_plays_43 rfl (lv_at hl 2 rfl) ?_
  refine lv_iconst (v := 1) hx hb dX12_plays_44 (by decide) ?_
  refine lv_icmp_le (tgt := 163) hx hb dX12_plays_45 (by decide) (fun c8 => ?_) (fun c8 => ?_)
  · have hq := hq.1 c8
    exact k_X12_plays_163 C hK hW (lv_sub hl [0, 2] rfl) hq
  · have hq := hq.2 c8
    refine lv_aload_n hx hb dX12_plays_48 rfl (lv_at hl 0 rfl) ?_
    refine gt12_65 C hK hW (rfl : shM 0 = 12) (List.mem_cons_of_mem _ mw1151) (fun _ h9 => List.mem_cons_of_mem _ (inU_wsX120 _ h9)) dX12_plays_49 ?_
    refine lv_bipush (v := 50) hx hb dX12_plays_52 (by decide) ?_
    refine lv_icmp_ge (tgt := 163) hx hb dX12_plays_54 (by decide) (fun c9 => ?_) (fun c9 => ?_)
    · have hq := hq.1 c9
      exact k_X12_plays_163 C hK hW (lv_sub hl [0, 2] rfl) hq
    · have hq := hq.2 c9
      refine lv_aload_n hx hb dX12_plays_57 rfl (lv_at hl 0 rfl) ?_
      refine lv_aload_n hx hb dX12_plays_58 rfl (lv_at hl 0 rfl) ?_
      refine gt12_65 C hK hW (rfl : shM 0 = 12) (List.mem_cons_of_mem _ mw1151) (fun _ h9 => List.mem_cons_of_mem _ (inU_wsX120 _ h9)) dX12_plays_59 ?_
      refine lv_lload hx hb dX12_plays_62 (lv_at hl 4 rfl) ?_
      refine lv_iload hx hb dX12_plays_64 (lv_at hl 5 rfl) ?_
      refine k_ci hW (va_runV (As := [.int (gI h 0 65), .long x4, .int x6]) (rest := []) (k_fix C) (c_X12_asksAfter l G h (gI h 0 65) x4 x6 _ hq) (cwV 3 C.2.2.2.2.2.1 (gU_V mw1157 mw1158 mw1159 mw5 mw1160) rfl rfl rfl (by decide +kernel) ⟨Nat.le_of_ble_eq_true rfl, Nat.le_of_ble_eq_true rfl⟩) (k_preV hK hW (shM_lt (rfl : shM 0 = 12) (by decide)) (ceM_12 (rfl : shM 0 = 12)) (q := (RX12, TX12, 73)) rfl) rfl rfl hl.1 rfl (lv_room (Nat.le_of_ble_eq_true rfl)) dX12_plays_66 ⟨Nat.le_refl 0, Nat.le_refl 0⟩) (fun r11 h10 H locs hq hW => ?_)
      refine lv_istore (lv' := [(6, .int r11), (0, .ref (G.2.2 0)), (1, .int x1), (2, .int x2), (3, .int x3), (4, .long x4)]) hx hb dX12_plays_69 hl (by decide) rfl (fun ls hl => ?_)
      refine lv_aload_n hx hb dX12_plays_71 rfl (lv_at hl 1 rfl) ?_
      refine lv_iload_n hx hb dX12_plays_72 rfl (lv_at hl 2 rfl) ?_
      refine lv_iload hx hb dX12_plays_73 (lv_at hl 0 rfl) ?_
      refine lv_i2l (v := r11.toInt64) hx hb dX12_plays_75 rfl ?_
      refine k_cl hW (va_runV (As := [.int x1, .long (r11.toInt64)]) (rest := []) (k_fix C) (c_X12_worldComes l G h10 x1 (r11.toInt64) _ hq) (cwV 2 C.2.2.2.2.2.1 (gU_V mw892 mw893 mw894 mw5 mw895) rfl rfl rfl (by decide +kernel) ⟨Nat.le_of_ble_eq_true rfl, Nat.le_of_ble_eq_true rfl⟩) (k_preV hK hW (shM_lt (rfl : shM 0 = 12) (by decide)) (ceM_12 (rfl : shM 0 = 12)) (q := (RX12, TX12, 73)) rfl) rfl rfl hl.1 rfl (lv_room (Nat.le_of_ble_eq_true rfl)) dX12_plays_76 ⟨Nat.le_refl 0, Nat.le_refl 0⟩) (fun r12 h13 H locs hq hW => ?_)
      rw [hq.1] at hW
      have hq := hq.2
      refine lv_lstore (lv' := [(4, .long r12), (6, .int r11), (0, .ref (G.2.2 0)), (1, .int x1), (2, .int x2), (3, .int x3)]) hx hb dX12_plays_79 hl (by decide) rfl (fun ls hl => ?_)
      refine lv_aload_n hx hb dX12_plays_81 rfl (lv_at hl 2 rfl) ?_
      refine lv_dup hx hb dX12_plays_82 rfl ?_
      refine gt12_65 C hK hW (rfl : shM 0 = 12) (List.mem_cons_of_mem _ mw1151) (fun _ h9 => List.mem_cons_of_mem _ (inU_wsX120 _ h9)) dX12_plays_83 ?_
      refine lv_iconst (v := 1) hx hb dX12_plays_86 (by decide) ?_
      refine lv_iadd hx hb dX12_plays_87 ?_
      refine pt12_65 C hK hW (rfl : shM 0 = 12) (List.mem_cons_of_mem _ mw1151) (fun _ h9 => List.mem_cons_of_mem _ (inU_wsX120 _ h9)) dX12_plays_88 (fun h14 H locs eh14 hW => ?_)
      have hq := hq h14 eh14
      refine lv_aload_n hx hb dX12_plays_91 rfl (lv_at hl 2 rfl) ?_
      refine lv_dup hx hb dX12_plays_92 rfl ?_
      refine gt12_66 C hK hW (rfl : shM 0 = 12) (List.mem_cons_of_mem _ mw1152) (fun _ h9 => List.mem_cons_of_mem _ (inU_wsX120 _ h9)) dX12_plays_93 ?_
      refine lv_iload hx hb dX12_plays_96 (lv_at hl 1 rfl) ?_
      refine lv_i2l (v := r11.toInt64) hx hb dX12_plays_98 rfl ?_
      refine k_ci hW (va_runS (As := [.long (r11.toInt64)]) (rest := [.int (gI h14 0 66), .ref (G.2.2 0)]) (k_fix C) (c_X12_figures l G h14 (r11.toInt64) _ hq) (va_cwS 1 C.2.2.2.2.2.1 (gU_S mw826 mw827 mw5 mw828) rfl rfl rfl (by decide +kernel) ⟨Nat.le_of_ble_eq_true rfl, Nat.le_of_ble_eq_true rfl⟩) (k_preS hK hW) rfl rfl hl.1 rfl (lv_room (Nat.le_of_ble_eq_true rfl)) dX12_plays_99 ⟨Nat.le_refl 0, Nat.le_refl 0⟩) (fun r15 h16 H locs hq hW => ?_)
      rw [hq.1] at hW
      have hq := hq.2
      refine lv_iadd hx hb dX12_plays_102 ?_
      refine pt12_66 C hK hW (rfl : shM 0 = 12) (List.mem_cons_of_mem _ mw1152) (fun _ h9 => List.mem_cons_of_mem _ (inU_wsX120 _ h9)) dX12_plays_103 (fun h17 H locs eh17 hW => ?_)
      have hq := hq h17 eh17
      refine lv_iconst (v := 0) hx hb dX12_plays_106 (by decide) ?_
      refine lv_istore (lv' := [(7, .int 0), (4, .long r12), (6, .int r11), (0, .ref (G.2.2 0)), (1, .int x1), (2, .int x2), (3, .int x3)]) hx hb dX12_plays_107 hl (by decide) rfl (fun ls hl => ?_)
      exact k_X12_plays_109 C hK hX43 hW (lv_sub hl [3, 4, 5, 6, 1, 2, 0] rfl) hq
theorem k_X12_plays_43 {Q : hp → Prop} {x1 : Int32} {x3 : Int32} (C : kC p s m args meth c cX12_plays 8 none RX12 wUX12_plays) (hK : kK G s) {x2 : Int32} {x4 : Int64} {x6 : Int32} {h : hp} {H : Heap} {locs : List Loc} {ls : Array Slot} (hW : kW SM G h (aS SM G) s H locs) (hl : lv_has ls 8 [(0, .ref (G.2.2 0)), (1, .int x1), (2, .int x2), (3, .int x3), (4, .long x4), (6, .int x6)]) (hq : w_X12_plays_43 Q x1 x3 x2 x4 x6 h) : W p l e rmX12_plays s m args below meth c H locs 0 0 (MQ below (va_Qv Q (kB SM G) (aS SM G)) args s 0 0 (aS SM G)) (F0 m 43 ls []) := by
  have key := hq (fun (q : Int32 × Int64 × Int32 × hp) => ∀ (H : Heap) (locs : List Loc) (ls : Array Slot), kW SM G q.2.2.2 (aS SM G) s H locs → lv_has ls 8 [(0, .ref (G.2.2 0)), (1, .int x1), (2, .int q.1), (3, .int x3), (4, .long q.2.1), (6, .int q.2.2.1)] → W p l e rmX12_plays s m args below meth c H locs 0 0 (MQ below (va_Qv Q (kB SM G) (aS SM G)) args s 0 0 (aS SM G)) (F0 m 43 ls []))
    (fun q hq H locs ls hW hl => k_X12_plays_b43 C hK (fun x2 x4 x6 h H locs ls hW hl hI => hI H locs ls hW hl) hW hl hq)
  exact key _ _ _ hW hl
theorem k_X12_plays_b7 {Q : hp → Prop} {X7 : Int32 × hp → Prop} {x1 : Int32} {x2 : Int32} (C : kC p s m args meth c cX12_plays 8 none RX12 wUX12_plays) (hK : kK G s) (hX7 : ∀ (x3 : Int32) (h : hp) (H : Heap) (locs : List Loc) (ls : Array Slot), kW SM G h (aS SM G) s H locs → lv_has ls 8 [(0, .ref (G.2.2 0)), (1, .int x1), (2, .int x2), (3, .int x3)] → X7 (x3, h) → W p l e rmX12_plays s m args below meth c H locs 0 0 (MQ below (va_Qv Q (kB SM G) (aS SM G)) args s 0 0 (aS SM G)) (F0 m 7 ls [])) {x3 : Int32} {h : hp} {H : Heap} {locs : List Loc} {ls : Array Slot} (hW : kW SM G h (aS SM G) s H locs) (hl : lv_has ls 8 [(0, .ref (G.2.2 0)), (1, .int x1), (2, .int x2), (3, .int x3)]) (hq : w_X12_plays_b7 Q x1 x2 X7 x3 h) : W p l e rmX12_plays s m args below meth c H locs 0 0 (MQ below (va_Qv Q (kB SM G) (aS SM G)) args s 0 0 (aS SM G)) (F0 m 7 ls []) := by
  have hx := C.1
  have hb := C.2.1
  unfold w_X12_plays_b7 at hq
  refine lv_iload_n hx hb dX12_plays_7 rfl (lv_at hl 3 rfl) ?_
  refine lv_iload_n hx hb dX12_plays_8 rfl (lv_at hl 2 rfl) ?_
  refine lv_icmp_ge (tgt := 25) hx hb dX12_plays_9 (by decide) (fun c3 => ?_) (fun c3 => ?_)
  · have hq := hq.1 c3
    refine lv_iload_n hx hb dX12_plays_25 rfl (lv_at hl 2 rfl) ?_
    refine lv_istore_n (lv' := [(3, .int x2), (0, .ref (G.2.2 0)), (1, .int x1), (2, .int x2)]) hx hb dX12_plays_26 rfl hl (by decide) rfl (fun ls hl => ?_)
    refine lv_aload_n hx hb dX12_plays_27 rfl (lv_at hl 1 rfl) ?_
    refine lv_iconst (v := 0) hx hb dX12_plays_28 (by decide) ?_
    refine pt12_65 C hK hW (rfl : shM 0 = 12) (List.mem_cons_of_mem _ mw1151) (fun _ h9 => List.mem_cons_of_mem _ (inU_wsX120 _ h9)) dX12_plays_29 (fun h4 H locs eh4 hW => ?_)
    have hq := hq h4 eh4
    refine lv_aload_n hx hb dX12_plays_32 rfl (lv_at hl 1 rfl) ?_
    refine lv_iconst (v := 0) hx hb dX12_plays_33 (by decide) ?_
    refine pt12_66 C hK hW (rfl : shM 0 = 12) (List.mem_cons_of_mem _ mw1152) (fun _ h9 => List.mem_cons_of_mem _ (inU_wsX120 _ h9)) dX12_plays_34 (fun h5 H locs eh5 hW => ?_)
    have hq := hq h5 eh5
    refine lv_lconst (v := 0) hx hb dX12_plays_37 (by decide) ?_
    refine lv_lstore (lv' := [(4, .long 0), (3, .int x2), (0, .ref (G.2.2 0)), (1, .int x1), (2, .int x2)]) hx hb dX12_plays_38 hl (by decide) rfl (fun ls hl => ?_)
    refine lv_iconst (v := 0) hx hb dX12_plays_40 (by decide) ?_
    refine lv_istore (lv' := [(6, .int 0), (4, .long 0), (3, .int x2), (0, .ref (G.2.2 0)), (1, .int x1), (2, .int x2)]) hx hb dX12_plays_41 hl (by decide) rfl (fun ls hl => ?_)
    exact k_X12_plays_43 C hK hW (lv_sub hl [3, 4, 5, 2, 1, 0] rfl) hq
  · have hq := hq.2 c3
    refine lv_aload_n hx hb dX12_plays_12 rfl (lv_at hl 0 rfl) ?_
    refine gt12_60 C hK hW (rfl : shM 0 = 12) (List.mem_cons_of_mem _ mw305) (fun _ h9 => List.mem_cons_of_mem _ (inU_wsX120 _ h9)) dX12_plays_13 ?_
    refine lv_iload_n hx hb dX12_plays_16 rfl (lv_at hl 3 rfl) ?_
    refine lv_iconst (v := 1) hx hb dX12_plays_17 (by decide) ?_
    refine k_zast okM C hK hW (shM_lt (rfl : shM 40 = 16) (by decide)) (fun g9 => ceM_16 (rfl : shM 40 = 16) (rfl : lnM 40 = 10000)) hq.1 dX12_plays_18 (fun H locs hW => ?_)
    have hq := hq.2
    obtain ⟨h6, eh6⟩ : ∃ z : hp, z = sI h 40 (ix x3) (jz 1) := ⟨_, rfl⟩
    rw [← eh6] at hW
    have hq := hq h6 eh6
    obtain ⟨x3_7, ex3_7⟩ : ∃ y : Int32, y = x3 + 1 := ⟨_, rfl⟩
    have hq := hq x3_7 ex3_7
    refine lv_iinc (v := x3_7) (lv' := [(3, .int x3_7), (0, .ref (G.2.2 0)), (1, .int x1), (2, .int x2)]) hx hb dX12_plays_19 hl (k := 3) rfl (by rw [ex3_7]; rfl) (by decide) rfl (fun ls hl => ?_)
    refine lv_goto (tgt := 7) hx hb dX12_plays_22 (by decide) ?_
    exact hX7 _ _ _ _ _ hW (lv_sub hl [1, 2, 3, 0] rfl) hq
theorem k_X12_plays_7 {Q : hp → Prop} {x1 : Int32} {x2 : Int32} (C : kC p s m args meth c cX12_plays 8 none RX12 wUX12_plays) (hK : kK G s) {x3 : Int32} {h : hp} {H : Heap} {locs : List Loc} {ls : Array Slot} (hW : kW SM G h (aS SM G) s H locs) (hl : lv_has ls 8 [(0, .ref (G.2.2 0)), (1, .int x1), (2, .int x2), (3, .int x3)]) (hq : w_X12_plays_7 Q x1 x2 x3 h) : W p l e rmX12_plays s m args below meth c H locs 0 0 (MQ below (va_Qv Q (kB SM G) (aS SM G)) args s 0 0 (aS SM G)) (F0 m 7 ls []) := by
  have key := hq (fun (q : Int32 × hp) => ∀ (H : Heap) (locs : List Loc) (ls : Array Slot), kW SM G q.2 (aS SM G) s H locs → lv_has ls 8 [(0, .ref (G.2.2 0)), (1, .int x1), (2, .int x2), (3, .int q.1)] → W p l e rmX12_plays s m args below meth c H locs 0 0 (MQ below (va_Qv Q (kB SM G) (aS SM G)) args s 0 0 (aS SM G)) (F0 m 7 ls []))
    (fun q hq H locs ls hW hl => k_X12_plays_b7 C hK (fun x3 h H locs ls hW hl hI => hI H locs ls hW hl) hW hl hq)
  exact key _ _ _ hW hl
theorem k_X12_plays_0 {Q : hp → Prop} {x1 : Int32} {h : hp} (C : kC p s m args meth c cX12_plays 8 none RX12 wUX12_plays) (hK : kK G s) {H : Heap} {locs : List Loc} {ls : Array Slot} (hW : kW SM G h (aS SM G) s H locs) (hl : lv_has ls 8 [(0, .ref (G.2.2 0)), (1, .int x1)]) (hq : w_X12_plays_0 Q x1 h) : W p l e rmX12_plays s m args below meth c H locs 0 0 (MQ below (va_Qv Q (kB SM G) (aS SM G)) args s 0 0 (aS SM G)) (F0 m 0 ls []) := by
  have hx := C.1
  have hb := C.2.1
  unfold w_X12_plays_0 at hq
  refine lv_aload_n hx hb dX12_plays_0 rfl (lv_at hl 0 rfl) ?_
  refine k_ci hW (va_runV (As := []) (rest := []) (k_fix C) (c_X12_worldAll l G h _ hq) (cwV 0 C.2.2.2.2.2.1 (gU_V mw888 mw889 mw890 mw5 mw891) rfl rfl rfl (by decide +kernel) ⟨Nat.le_of_ble_eq_true rfl, Nat.le_of_ble_eq_true rfl⟩) (k_preV hK hW (shM_lt (rfl : shM 0 = 12) (by decide)) (ceM_12 (rfl : shM 0 = 12)) (q := (RX12, TX12, 73)) rfl) rfl rfl hl.1 rfl (lv_room (Nat.le_of_ble_eq_true rfl)) dX12_plays_1 ⟨Nat.le_refl 0, Nat.le_refl 0⟩) (fun r1 h2 H locs hq hW => ?_)
  rw [hq.1] at hW
  have hq := hq.2
  refine lv_istore_n (lv' := [(2, .int r1), (0, .ref (G.2.2 0)), (1, .int x1)]) hx hb dX12_plays_4 rfl hl (by decide) rfl (fun ls hl => ?_)
  refine lv_iconst (v := 0) hx hb dX12_plays_5 (by decide) ?_
  refine lv_istore_n (lv' := [(3, .int 0), (2, .int r1), (0, .ref (G.2.2 0)), (1, .int x1)]) hx hb dX12_plays_6 rfl hl (by decide) rfl (fun ls hl => ?_)
  exact k_X12_plays_7 C hK hW (lv_sub hl [2, 3, 1, 0] rfl) hq
theorem c_X12_plays (l : Launch) (G : wG) (h : hp) (x1 : Int32) (Q : hp → Prop) (hq : w_X12_plays h x1 Q) : ctV l SM G yX12_plays wUX12_plays rmX12_plays h [.ref (G.2.2 0), .int x1] Q := by
  refine k_start (cc := cX12_plays) (maxL := 8) (rt := none) (own := RX12) (by decide +kernel) rfl rfl (Nat.le_of_ble_eq_true rfl) ?_
  intro p e s m below meth c ls C hK hW hl
  exact k_X12_plays_0 C hK hW hl hq
theorem k_X12_game_0 {Q : Int32 → hp → Prop} {x1 : Int32} {x2 : Int32} {h : hp} (C : kC p s m args meth c cX12_game 3 (some .int) RX12 wUX12_game) (hK : kK G s) {H : Heap} {locs : List Loc} {ls : Array Slot} (hW : kW SM G h (aS SM G) s H locs) (hl : lv_has ls 3 [(0, .ref (G.2.2 0)), (1, .int x1), (2, .int x2)]) (hq : w_X12_game_0 Q x1 x2 h) : W p l e rmX12_game s m args below meth c H locs 0 0 (MQ below (va_Qi Q (kB SM G) (aS SM G)) args s 0 0 (aS SM G)) (F0 m 0 ls []) := by
  have hx := C.1
  have hb := C.2.1
  unfold w_X12_game_0 at hq
  refine lv_iload_n hx hb dX12_game_0 rfl (lv_at hl 1 rfl) ?_
  refine lv_i2l (v := x1.toInt64) hx hb dX12_game_1 rfl ?_
  refine lv_lconst (v := 0) hx hb dX12_game_2 (by decide) ?_
  refine lv_aload_n hx hb dX12_game_3 rfl (lv_at hl 0 rfl) ?_
  refine k_ci hW (va_runV (As := []) (rest := [.long 0, .long (x1.toInt64)]) (k_fix C) (c_X12_worldAll l G h _ hq) (cwV 0 C.2.2.2.2.2.1 (gU_V mw888 mw889 mw890 mw5 mw891) rfl rfl rfl (by decide +kernel) ⟨Nat.le_of_ble_eq_true rfl, Nat.le_of_ble_eq_true rfl⟩) (k_preV hK hW (shM_lt (rfl : shM 0 = 12) (by decide)) (ceM_12 (rfl : shM 0 = 12)) (q := (RX12, TX12, 73)) rfl) rfl rfl hl.1 rfl (lv_room (Nat.le_of_ble_eq_true rfl)) dX12_game_4 ⟨Nat.le_refl 0, Nat.le_refl 0⟩) (fun r1 h2 H locs hq hW => ?_)
  rw [hq.1] at hW
  have hq := hq.2
  refine lv_iconst (v := 1) hx hb dX12_game_7 (by decide) ?_
  refine lv_isub hx hb dX12_game_8 ?_
  refine lv_i2l (v := (r1 - 1).toInt64) hx hb dX12_game_9 rfl ?_
  refine k_ci hW (va_runS (As := [.long (x1.toInt64), .long 0, .long ((r1 - 1).toInt64)]) (rest := []) (k_fix C) (c_X12_in l G h (x1.toInt64) 0 ((r1 - 1).toInt64) _ hq) (va_cwS 3 C.2.2.2.2.2.1 (gU_S mw762 mw763 mw5 mw764) rfl rfl rfl (by decide +kernel) ⟨Nat.le_of_ble_eq_true rfl, Nat.le_of_ble_eq_true rfl⟩) (k_preS hK hW) rfl rfl hl.1 rfl (lv_room (Nat.le_of_ble_eq_true rfl)) dX12_game_10 ⟨Nat.le_refl 0, Nat.le_refl 0⟩) (fun r3 h4 H locs hq hW => ?_)
  rw [hq.1] at hW
  have hq := hq.2
  refine lv_if_eq (tgt := 26) hx hb dX12_game_13 (by decide) (fun c5 => ?_) (fun c5 => ?_)
  · have hq := hq.1 c5
    refine lv_iconst (v := (-1)) hx hb dX12_game_26 (by decide) ?_
    exact k_iret rfl C hW dX12_game_27 hq
  · have hq := hq.2 c5
    refine lv_iload_n hx hb dX12_game_16 rfl (lv_at hl 2 rfl) ?_
    refine lv_i2l (v := x2.toInt64) hx hb dX12_game_17 rfl ?_
    refine lv_lconst (v := 0) hx hb dX12_game_18 (by decide) ?_
    refine lv_lconst (v := 1) hx hb dX12_game_19 (by decide) ?_
    refine k_ci hW (va_runS (As := [.long (x2.toInt64), .long 0, .long 1]) (rest := []) (k_fix C) (c_X12_in l G h (x2.toInt64) 0 1 _ hq) (va_cwS 3 C.2.2.2.2.2.1 (gU_S mw762 mw763 mw5 mw764) rfl rfl rfl (by decide +kernel) ⟨Nat.le_of_ble_eq_true rfl, Nat.le_of_ble_eq_true rfl⟩) (k_preS hK hW) rfl rfl hl.1 rfl (lv_room (Nat.le_of_ble_eq_true rfl)) dX12_game_20 ⟨Nat.le_refl 0, Nat.le_refl 0⟩) (fun r6 h7 H locs hq hW => ?_)
    rw [hq.1] at hW
    have hq := hq.2
    refine lv_if_ne (tgt := 28) hx hb dX12_game_23 (by decide) (fun c8 => ?_) (fun c8 => ?_)
    · have hq := hq.1 c8
      refine lv_aload_n hx hb dX12_game_28 rfl (lv_at hl 0 rfl) ?_
      refine lv_iload_n hx hb dX12_game_29 rfl (lv_at hl 1 rfl) ?_
      refine k_cv hW (va_runV (As := [.int x1]) (rest := []) (k_fix C) (c_X12_plays l G h x1 _ hq) (cwV 1 C.2.2.2.2.2.1 (gU_V mw1153 mw1154 mw1155 mw5 mw1156) rfl rfl rfl (by decide +kernel) ⟨Nat.le_of_ble_eq_true rfl, Nat.le_of_ble_eq_true rfl⟩) (k_preV hK hW (shM_lt (rfl : shM 0 = 12) (by decide)) (ceM_12 (rfl : shM 0 = 12)) (q := (RX12, TX12, 73)) rfl) rfl rfl hl.1 rfl (lv_room (Nat.le_of_ble_eq_true rfl)) dX12_game_30 ⟨Nat.le_refl 0, Nat.le_refl 0⟩) (fun h9 H locs hq hW => ?_)
      refine lv_iload_n hx hb dX12_game_33 rfl (lv_at hl 2 rfl) ?_
      refine lv_if_ne (tgt := 44) hx hb dX12_game_34 (by decide) (fun c10 => ?_) (fun c10 => ?_)
      · have hq := hq.1 c10
        refine lv_aload_n hx hb dX12_game_44 rfl (lv_at hl 0 rfl) ?_
        refine gt12_66 C hK hW (rfl : shM 0 = 12) (List.mem_cons_of_mem _ mw1152) (fun _ h9 => List.mem_cons_of_mem _ (inU_wsX120 _ h9)) dX12_game_45 ?_
        exact k_iret rfl C hW dX12_game_48 hq
      · have hq := hq.2 c10
        refine lv_aload_n hx hb dX12_game_37 rfl (lv_at hl 0 rfl) ?_
        refine gt12_65 C hK hW (rfl : shM 0 = 12) (List.mem_cons_of_mem _ mw1151) (fun _ h9 => List.mem_cons_of_mem _ (inU_wsX120 _ h9)) dX12_game_38 ?_
        refine lv_goto (tgt := 48) hx hb dX12_game_41 (by decide) ?_
        exact k_iret rfl C hW dX12_game_48 hq
    · have hq := hq.2 c8
      refine lv_iconst (v := (-1)) hx hb dX12_game_26 (by decide) ?_
      exact k_iret rfl C hW dX12_game_27 hq
theorem c_X12_game (l : Launch) (G : wG) (h : hp) (x1 : Int32) (x2 : Int32) (Q : Int32 → hp → Prop) (hq : w_X12_game h x1 x2 Q) : ctI l SM G yX12_game wUX12_game rmX12_game h [.ref (G.2.2 0), .int x1, .int x2] Q := by
  refine k_start (cc := cX12_game) (maxL := 3) (rt := (some .int)) (own := RX12) (by decide +kernel) rfl rfl (Nat.le_of_ble_eq_true rfl) ?_
  intro p e s m below meth c ls C hK hW hl
  exact k_X12_game_0 C hK hW hl hq
end LINKS
