section LINKS
variable {p : Program} {l : Launch} {e : Env} {s : State} {m : MethodId} {args : Array Value} {below : List Frame} {meth : Method} {c : Code} {G : wG}
theorem k_X12_liars_b58 {Q : Int32 → hp → Prop} {X36 : Int32 × Int32 → Prop} {X58 : Int32 × Int32 → Prop} {x1 : Int32} {x5 : Int32} {h : hp} (C : kC p s m args meth c cX12_liars 7 (some .int) RX12 wUX12_liars) (hK : kK G s) (hX36 : ∀ (x4 : Int32) (x5 : Int32) (H : Heap) (locs : List Loc) (ls : Array Slot), kW SM G h (aS SM G) s H locs → lv_has ls 7 [(0, .ref (G.2.2 0)), (1, .int x1), (4, .int x4), (5, .int x5)] → X36 (x4, x5) → W p l e rmX12_liars s m args below meth c H locs 0 0 (MQ below (va_Qi Q (kB SM G) (aS SM G)) args s 0 0 (aS SM G)) (F0 m 36 ls [])) (hX58 : ∀ (x4 : Int32) (x6 : Int32) (H : Heap) (locs : List Loc) (ls : Array Slot), kW SM G h (aS SM G) s H locs → lv_has ls 7 [(0, .ref (G.2.2 0)), (1, .int x1), (4, .int x4), (5, .int x5), (6, .int x6)] → X58 (x4, x6) → W p l e rmX12_liars s m args below meth c H locs 0 0 (MQ below (va_Qi Q (kB SM G) (aS SM G)) args s 0 0 (aS SM G)) (F0 m 58 ls [])) {x4 : Int32} {x6 : Int32} {H : Heap} {locs : List Loc} {ls : Array Slot} (hW : kW SM G h (aS SM G) s H locs) (hl : lv_has ls 7 [(0, .ref (G.2.2 0)), (1, .int x1), (4, .int x4), (5, .int x5), (6, .int x6)]) (hq : w_X12_liars_b58 Q X36 x1 x5 h X58 x4 x6) : W p l e rmX12_liars s m args below meth c H locs 0 0 (MQ below (va_Qi Q (kB SM G) (aS SM G)) args s 0 0 (aS SM G)) (F0 m 58 ls []) := by
  have hx := C.1
  have hb := C.2.1
  unfold w_X12_liars_b58 at hq
  refine lv_iload hx hb dX12_liars_58 (lv_at hl 4 rfl) ?_
  refine lv_iload_n hx hb dX12_liars_60 rfl (lv_at hl 1 rfl) ?_
  refine lv_icmp_ge (tgt := 92) hx hb dX12_liars_61 (by decide) (fun c13 => ?_) (fun c13 => ?_)
  · have hq := hq.1 c13
    obtain ⟨x5_14, ex5_14⟩ : ∃ y : Int32, y = x5 + 1 := ⟨_, rfl⟩
    have hq := hq x5_14 ex5_14
    refine lv_iinc (v := x5_14) (lv' := [(5, .int x5_14), (0, .ref (G.2.2 0)), (1, .int x1), (4, .int x4), (6, .int x6)]) hx hb dX12_liars_92 hl (k := 3) rfl (by rw [ex5_14]; rfl) (by decide) rfl (fun ls hl => ?_)
    refine lv_goto (tgt := 36) hx hb dX12_liars_95 (by decide) ?_
    exact hX36 _ _ _ _ _ hW (lv_sub hl [1, 2, 3, 0] rfl) hq
  · have hq := hq.2 c13
    refine lv_aload_n hx hb dX12_liars_64 rfl (lv_at hl 0 rfl) ?_
    refine lv_iload hx hb dX12_liars_65 (lv_at hl 3 rfl) ?_
    refine lv_iload hx hb dX12_liars_67 (lv_at hl 4 rfl) ?_
    refine k_ci hW (va_runV (As := [.int x5, .int x6]) (rest := []) (k_fix C) (c_X12_isRight l G h x5 x6 _ hq) (cwV 2 C.2.2.2.2.2.1 (gU_V mw1006 mw1007 mw1008 mw5 mw1009) rfl rfl rfl (by decide +kernel) ⟨Nat.le_of_ble_eq_true rfl, Nat.le_of_ble_eq_true rfl⟩) (k_preV hK hW (shM_lt (rfl : shM 0 = 12) (by decide)) (ceM_12 (rfl : shM 0 = 12)) (q := (RX12, TX12, 73)) rfl) rfl rfl hl.1 rfl (lv_room (Nat.le_of_ble_eq_true rfl)) dX12_liars_69 ⟨Nat.le_refl 0, Nat.le_refl 0⟩) (fun r15 h16 H locs hq hW => ?_)
    rw [hq.1] at hW
    have hq := hq.2
    refine lv_if_eq (tgt := 86) hx hb dX12_liars_72 (by decide) (fun c17 => ?_) (fun c17 => ?_)
    · have hq := hq.1 c17
      obtain ⟨x6_18, ex6_18⟩ : ∃ y : Int32, y = x6 + 1 := ⟨_, rfl⟩
      have hq := hq x6_18 ex6_18
      refine lv_iinc (v := x6_18) (lv' := [(6, .int x6_18), (0, .ref (G.2.2 0)), (1, .int x1), (4, .int x4), (5, .int x5)]) hx hb dX12_liars_86 hl (k := 4) rfl (by rw [ex6_18]; rfl) (by decide) rfl (fun ls hl => ?_)
      refine lv_goto (tgt := 58) hx hb dX12_liars_89 (by decide) ?_
      exact hX58 _ _ _ _ _ hW (lv_sub hl [1, 2, 3, 4, 0] rfl) hq
    · have hq := hq.2 c17
      refine lv_iload hx hb dX12_liars_75 (lv_at hl 2 rfl) ?_
      refine lv_iconst (v := 1) hx hb dX12_liars_77 (by decide) ?_
      refine lv_iload hx hb dX12_liars_78 (lv_at hl 4 rfl) ?_
      refine k_ishl hx hb dX12_liars_80 ?_
      refine lv_iconst (v := (-1)) hx hb dX12_liars_81 (by decide) ?_
      refine lv_ixor hx hb dX12_liars_82 ?_
      refine lv_iand hx hb dX12_liars_83 ?_
      refine lv_topi (fun x4_19 ex4_19 => ?_)
      have hq := hq x4_19 ex4_19
      refine lv_istore (lv' := [(4, .int x4_19), (0, .ref (G.2.2 0)), (1, .int x1), (5, .int x5), (6, .int x6)]) hx hb dX12_liars_84 hl (by decide) rfl (fun ls hl => ?_)
      obtain ⟨x6_20, ex6_20⟩ : ∃ y : Int32, y = x6 + 1 := ⟨_, rfl⟩
      have hq := hq x6_20 ex6_20
      refine lv_iinc (v := x6_20) (lv' := [(6, .int x6_20), (4, .int x4_19), (0, .ref (G.2.2 0)), (1, .int x1), (5, .int x5)]) hx hb dX12_liars_86 hl (k := 4) rfl (by rw [ex6_20]; rfl) (by decide) rfl (fun ls hl => ?_)
      refine lv_goto (tgt := 58) hx hb dX12_liars_89 (by decide) ?_
      exact hX58 _ _ _ _ _ hW (lv_sub hl [2, 3, 1, 4, 0] rfl) hq
theorem k_X12_liars_58 {Q : Int32 → hp → Prop} {X36 : Int32 × Int32 → Prop} {x1 : Int32} {x5 : Int32} {h : hp} (C : kC p s m args meth c cX12_liars 7 (some .int) RX12 wUX12_liars) (hK : kK G s) (hX36 : ∀ (x4 : Int32) (x5 : Int32) (H : Heap) (locs : List Loc) (ls : Array Slot), kW SM G h (aS SM G) s H locs → lv_has ls 7 [(0, .ref (G.2.2 0)), (1, .int x1), (4, .int x4), (5, .int x5)] → X36 (x4, x5) → W p l e rmX12_liars s m args below meth c H locs 0 0 (MQ below (va_Qi Q (kB SM G) (aS SM G)) args s 0 0 (aS SM G)) (F0 m 36 ls [])) {x4 : Int32} {x6 : Int32} {H : Heap} {locs : List Loc} {ls : Array Slot} (hW : kW SM G h (aS SM G) s H locs) (hl : lv_has ls 7 [(0, .ref (G.2.2 0)), (1, .int x1), (4, .int x4), (5, .int x5), (6, .int x6)]) (hq : w_X12_liars_58 Q X36 x1 x5 h x4 x6) : W p l e rmX12_liars s m args below meth c H locs 0 0 (MQ below (va_Qi Q (kB SM G) (aS SM G)) args s 0 0 (aS SM G)) (F0 m 58 ls []) := by
  have key := hq (fun (q : Int32 × Int32) => ∀ (H : Heap) (locs : List Loc) (ls : Array Slot), kW SM G h (aS SM G) s H locs → lv_has ls 7 [(0, .ref (G.2.2 0)), (1, .int x1), (4, .int q.1), (5, .int x5), (6, .int q.2)] → W p l e rmX12_liars s m args below meth c H locs 0 0 (MQ below (va_Qi Q (kB SM G) (aS SM G)) args s 0 0 (aS SM G)) (F0 m 58 ls []))
    (fun q hq H locs ls hW hl => k_X12_liars_b58 C hK hX36 (fun x4 x6 H locs ls hW hl hI => hI H locs ls hW hl) hW hl hq)
  exact key _ _ _ hW hl
theorem k_X12_liars_b36 {Q : Int32 → hp → Prop} {X36 : Int32 × Int32 → Prop} {x1 : Int32} {h : hp} (C : kC p s m args meth c cX12_liars 7 (some .int) RX12 wUX12_liars) (hK : kK G s) (hX36 : ∀ (x4 : Int32) (x5 : Int32) (H : Heap) (locs : List Loc) (ls : Array Slot), kW SM G h (aS SM G) s H locs → lv_has ls 7 [(0, .ref (G.2.2 0)), (1, .int x1), (4, .int x4), (5, .int x5)] → X36 (x4, x5) → W p l e rmX12_liars s m args below meth c H locs 0 0 (MQ below (va_Qi Q (kB SM G) (aS SM G)) args s 0 0 (aS SM G)) (F0 m 36 ls [])) {x4 : Int32} {x5 : Int32} {H : Heap} {locs : List Loc} {ls : Array Slot} (hW : kW SM G h (aS SM G) s H locs) (hl : lv_has ls 7 [(0, .ref (G.2.2 0)), (1, .int x1), (4, .int x4), (5, .int x5)]) (hq : w_X12_liars_b36 Q x1 h X36 x4 x5) : W p l e rmX12_liars s m args below meth c H locs 0 0 (MQ below (va_Qi Q (kB SM G) (aS SM G)) args s 0 0 (aS SM G)) (F0 m 36 ls []) := by
  have hx := C.1
  have hb := C.2.1
  unfold w_X12_liars_b36 at hq
  refine lv_iload hx hb dX12_liars_36 (lv_at hl 3 rfl) ?_
  refine lv_aload_n hx hb dX12_liars_38 rfl (lv_at hl 0 rfl) ?_
  refine k_ci hW (va_runV (As := []) (rest := [.int x5]) (k_fix C) (c_X12_worldAll l G h _ hq) (cwV 0 C.2.2.2.2.2.1 (gU_V mw888 mw889 mw890 mw5 mw891) rfl rfl rfl (by decide +kernel) ⟨Nat.le_of_ble_eq_true rfl, Nat.le_of_ble_eq_true rfl⟩) (k_preV hK hW (shM_lt (rfl : shM 0 = 12) (by decide)) (ceM_12 (rfl : shM 0 = 12)) (q := (RX12, TX12, 73)) rfl) rfl rfl hl.1 rfl (lv_room (Nat.le_of_ble_eq_true rfl)) dX12_liars_39 ⟨Nat.le_refl 0, Nat.le_refl 0⟩) (fun r8 h9 H locs hq hW => ?_)
  rw [hq.1] at hW
  have hq := hq.2
  refine lv_icmp_ge (tgt := 98) hx hb dX12_liars_42 (by decide) (fun c10 => ?_) (fun c10 => ?_)
  · have hq := hq.1 c10
    refine lv_iload hx hb dX12_liars_98 (lv_at hl 2 rfl) ?_
    exact k_iret rfl C hW dX12_liars_100 hq
  · have hq := hq.2 c10
    refine lv_aload_n hx hb dX12_liars_45 rfl (lv_at hl 0 rfl) ?_
    refine gt12_60 C hK hW (rfl : shM 0 = 12) (List.mem_cons_of_mem _ mw305) (fun _ h9 => List.mem_cons_of_mem _ (inU_wsX120 _ h9)) dX12_liars_46 ?_
    refine lv_iload hx hb dX12_liars_49 (lv_at hl 3 rfl) ?_
    refine k_zald C hK hW (shM_lt (rfl : shM 40 = 16) (by decide)) (ceM_16 (rfl : shM 40 = 16) (rfl : lnM 40 = 10000)) hq.1 dX12_liars_51 ?_
    have hq := hq.2
    refine lv_if_eq (tgt := 92) hx hb dX12_liars_52 (by decide) (fun c11 => ?_) (fun c11 => ?_)
    · have hq := hq.1 c11
      obtain ⟨x5_12, ex5_12⟩ : ∃ y : Int32, y = x5 + 1 := ⟨_, rfl⟩
      have hq := hq x5_12 ex5_12
      refine lv_iinc (v := x5_12) (lv' := [(5, .int x5_12), (0, .ref (G.2.2 0)), (1, .int x1), (4, .int x4)]) hx hb dX12_liars_92 hl (k := 3) rfl (by rw [ex5_12]; rfl) (by decide) rfl (fun ls hl => ?_)
      refine lv_goto (tgt := 36) hx hb dX12_liars_95 (by decide) ?_
      exact hX36 _ _ _ _ _ hW (lv_sub hl [1, 2, 3, 0] rfl) hq
    · have hq := hq.2 c11
      refine lv_iconst (v := 0) hx hb dX12_liars_55 (by decide) ?_
      refine lv_istore (lv' := [(6, .int 0), (0, .ref (G.2.2 0)), (1, .int x1), (4, .int x4), (5, .int x5)]) hx hb dX12_liars_56 hl (by decide) rfl (fun ls hl => ?_)
      exact k_X12_liars_58 C hK hX36 hW (lv_sub hl [1, 2, 3, 4, 0] rfl) hq
theorem k_X12_liars_36 {Q : Int32 → hp → Prop} {x1 : Int32} {h : hp} (C : kC p s m args meth c cX12_liars 7 (some .int) RX12 wUX12_liars) (hK : kK G s) {x4 : Int32} {x5 : Int32} {H : Heap} {locs : List Loc} {ls : Array Slot} (hW : kW SM G h (aS SM G) s H locs) (hl : lv_has ls 7 [(0, .ref (G.2.2 0)), (1, .int x1), (4, .int x4), (5, .int x5)]) (hq : w_X12_liars_36 Q x1 h x4 x5) : W p l e rmX12_liars s m args below meth c H locs 0 0 (MQ below (va_Qi Q (kB SM G) (aS SM G)) args s 0 0 (aS SM G)) (F0 m 36 ls []) := by
  have key := hq (fun (q : Int32 × Int32) => ∀ (H : Heap) (locs : List Loc) (ls : Array Slot), kW SM G h (aS SM G) s H locs → lv_has ls 7 [(0, .ref (G.2.2 0)), (1, .int x1), (4, .int q.1), (5, .int q.2)] → W p l e rmX12_liars s m args below meth c H locs 0 0 (MQ below (va_Qi Q (kB SM G) (aS SM G)) args s 0 0 (aS SM G)) (F0 m 36 ls []))
    (fun q hq H locs ls hW hl => k_X12_liars_b36 C hK (fun x4 x5 H locs ls hW hl hI => hI H locs ls hW hl) hW hl hq)
  exact key _ _ _ hW hl
theorem k_X12_liars_0 {Q : Int32 → hp → Prop} {x1 : Int32} {x2 : Int32} {x3 : Int32} {h : hp} (C : kC p s m args meth c cX12_liars 7 (some .int) RX12 wUX12_liars) (hK : kK G s) {H : Heap} {locs : List Loc} {ls : Array Slot} (hW : kW SM G h (aS SM G) s H locs) (hl : lv_has ls 7 [(0, .ref (G.2.2 0)), (1, .int x1), (2, .int x2), (3, .int x3)]) (hq : w_X12_liars_0 Q x1 x2 x3 h) : W p l e rmX12_liars s m args below meth c H locs 0 0 (MQ below (va_Qi Q (kB SM G) (aS SM G)) args s 0 0 (aS SM G)) (F0 m 0 ls []) := by
  have hx := C.1
  have hb := C.2.1
  unfold w_X12_liars_0 at hq
  refine lv_aload_n hx hb dX12_liars_0 rfl (lv_at hl 0 rfl) ?_
  refine lv_iload_n hx hb dX12_liars_1 rfl (lv_at hl 1 rfl) ?_
  refine lv_iload_n hx hb dX12_liars_2 rfl (lv_at hl 2 rfl) ?_
  refine lv_iload_n hx hb dX12_liars_3 rfl (lv_at hl 3 rfl) ?_
  refine k_ci hW (va_runV (As := [.int x1, .int x2, .int x3]) (rest := []) (k_fix C) (c_X12_isAsked l G h x1 x2 x3 _ hq) (cwV 3 C.2.2.2.2.2.1 (gU_V mw988 mw989 mw990 mw5 mw991) rfl rfl rfl (by decide +kernel) ⟨Nat.le_of_ble_eq_true rfl, Nat.le_of_ble_eq_true rfl⟩) (k_preV hK hW (shM_lt (rfl : shM 0 = 12) (by decide)) (ceM_12 (rfl : shM 0 = 12)) (q := (RX12, TX12, 73)) rfl) rfl rfl hl.1 rfl (lv_room (Nat.le_of_ble_eq_true rfl)) dX12_liars_4 ⟨Nat.le_refl 0, Nat.le_refl 0⟩) (fun r1 h2 H locs hq hW => ?_)
  rw [hq.1] at hW
  have hq := hq.2
  refine lv_if_ne (tgt := 12) hx hb dX12_liars_7 (by decide) (fun c3 => ?_) (fun c3 => ?_)
  · have hq := hq.1 c3
    refine lv_aload_n hx hb dX12_liars_12 rfl (lv_at hl 0 rfl) ?_
    refine lv_iload_n hx hb dX12_liars_13 rfl (lv_at hl 1 rfl) ?_
    refine lv_iload_n hx hb dX12_liars_14 rfl (lv_at hl 2 rfl) ?_
    refine lv_iload_n hx hb dX12_liars_15 rfl (lv_at hl 3 rfl) ?_
    refine k_ci hW (va_runV (As := [.int x1, .int x2, .int x3]) (rest := []) (k_fix C) (c_X12_fillsFits l G h x1 x2 x3 _ hq) (cwV 3 C.2.2.2.2.2.1 (gU_V mw994 mw995 mw996 mw5 mw997) rfl rfl rfl (by decide +kernel) ⟨Nat.le_of_ble_eq_true rfl, Nat.le_of_ble_eq_true rfl⟩) (k_preV hK hW (shM_lt (rfl : shM 0 = 12) (by decide)) (ceM_12 (rfl : shM 0 = 12)) (q := (RX12, TX12, 73)) rfl) rfl rfl hl.1 rfl (lv_room (Nat.le_of_ble_eq_true rfl)) dX12_liars_16 ⟨Nat.le_refl 0, Nat.le_refl 0⟩) (fun r5 h4 H locs hq hW => ?_)
    refine lv_if_ne (tgt := 26) hx hb dX12_liars_19 (by decide) (fun c6 => ?_) (fun c6 => ?_)
    · have hq := hq.1 c6
      refine lv_iconst (v := 1) hx hb dX12_liars_26 (by decide) ?_
      refine lv_iload_n hx hb dX12_liars_27 rfl (lv_at hl 1 rfl) ?_
      refine k_ishl hx hb dX12_liars_28 ?_
      refine lv_iconst (v := 1) hx hb dX12_liars_29 (by decide) ?_
      refine lv_isub hx hb dX12_liars_30 ?_
      refine lv_topi (fun x4_7 ex4_7 => ?_)
      have hq := hq x4_7 ex4_7
      refine lv_istore (lv' := [(4, .int x4_7), (0, .ref (G.2.2 0)), (1, .int x1), (2, .int x2), (3, .int x3)]) hx hb dX12_liars_31 hl (by decide) rfl (fun ls hl => ?_)
      refine lv_iconst (v := 0) hx hb dX12_liars_33 (by decide) ?_
      refine lv_istore (lv' := [(5, .int 0), (4, .int x4_7), (0, .ref (G.2.2 0)), (1, .int x1), (2, .int x2), (3, .int x3)]) hx hb dX12_liars_34 hl (by decide) rfl (fun ls hl => ?_)
      exact k_X12_liars_36 C hK hW (lv_sub hl [2, 3, 1, 0] rfl) hq
    · have hq := hq.2 c6
      refine lv_iconst (v := 0) hx hb dX12_liars_22 (by decide) ?_
      refine lv_goto (tgt := 31) hx hb dX12_liars_23 (by decide) ?_
      refine lv_istore (lv' := [(4, .int 0), (0, .ref (G.2.2 0)), (1, .int x1), (2, .int x2), (3, .int x3)]) hx hb dX12_liars_31 hl (by decide) rfl (fun ls hl => ?_)
      refine lv_iconst (v := 0) hx hb dX12_liars_33 (by decide) ?_
      refine lv_istore (lv' := [(5, .int 0), (4, .int 0), (0, .ref (G.2.2 0)), (1, .int x1), (2, .int x2), (3, .int x3)]) hx hb dX12_liars_34 hl (by decide) rfl (fun ls hl => ?_)
      exact k_X12_liars_36 C hK hW (lv_sub hl [2, 3, 1, 0] rfl) hq
  · have hq := hq.2 c3
    refine lv_iconst (v := (-1)) hx hb dX12_liars_10 (by decide) ?_
    exact k_iret rfl C hW dX12_liars_11 hq
theorem c_X12_liars (l : Launch) (G : wG) (h : hp) (x1 : Int32) (x2 : Int32) (x3 : Int32) (Q : Int32 → hp → Prop) (hq : w_X12_liars h x1 x2 x3 Q) : ctI l SM G yX12_liars wUX12_liars rmX12_liars h [.ref (G.2.2 0), .int x1, .int x2, .int x3] Q := by
  refine k_start (cc := cX12_liars) (maxL := 7) (rt := (some .int)) (own := RX12) (by decide +kernel) rfl rfl (Nat.le_of_ble_eq_true rfl) ?_
  intro p e s m below meth c ls C hK hW hl
  exact k_X12_liars_0 C hK hW hl hq
theorem k_X12_next_b66 {Q : Int32 → hp → Prop} {X49 : Int32 × Int32 × Int32 × hp → Prop} {X66 : Int32 × Int32 × hp → Prop} {x4 : Int32} {x5 : Int32} {x6 : Int32} {x7 : Int32} (C : kC p s m args meth c cX12_next 11 (some .int) RX12 wUX12_next) (hK : kK G s) (hX49 : ∀ (x5 : Int32) (x6 : Int32) (x7 : Int32) (h : hp) (H : Heap) (locs : List Loc) (ls : Array Slot), kW SM G h (aS SM G) s H locs → lv_has ls 11 [(0, .ref (G.2.2 0)), (4, .int x4), (5, .int x5), (6, .int x6), (7, .int x7)] → X49 (x5, x6, x7, h) → W p l e rmX12_next s m args below meth c H locs 0 0 (MQ below (va_Qi Q (kB SM G) (aS SM G)) args s 0 0 (aS SM G)) (F0 m 49 ls [])) (hX66 : ∀ (x8 : Int32) (x9 : Int32) (h : hp) (H : Heap) (locs : List Loc) (ls : Array Slot), kW SM G h (aS SM G) s H locs → lv_has ls 11 [(0, .ref (G.2.2 0)), (4, .int x4), (5, .int x5), (6, .int x6), (7, .int x7), (8, .int x8), (9, .int x9)] → X66 (x8, x9, h) → W p l e rmX12_next s m args below meth c H locs 0 0 (MQ below (va_Qi Q (kB SM G) (aS SM G)) args s 0 0 (aS SM G)) (F0 m 66 ls [])) {x8 : Int32} {x9 : Int32} {h : hp} {H : Heap} {locs : List Loc} {ls : Array Slot} (hW : kW SM G h (aS SM G) s H locs) (hl : lv_has ls 11 [(0, .ref (G.2.2 0)), (4, .int x4), (5, .int x5), (6, .int x6), (7, .int x7), (8, .int x8), (9, .int x9)]) (hq : w_X12_next_b66 Q X49 x4 x5 x6 x7 X66 x8 x9 h) : W p l e rmX12_next s m args below meth c H locs 0 0 (MQ below (va_Qi Q (kB SM G) (aS SM G)) args s 0 0 (aS SM G)) (F0 m 66 ls []) := by
  have hx := C.1
  have hb := C.2.1
  unfold w_X12_next_b66 at hq
  refine lv_iload hx hb dX12_next_66 (lv_at hl 6 rfl) ?_
  refine lv_aload_n hx hb dX12_next_68 rfl (lv_at hl 0 rfl) ?_
  refine k_ci hW (va_runV (As := []) (rest := [.int x9]) (k_fix C) (c_X12_worldAll l G h _ hq) (cwV 0 C.2.2.2.2.2.1 (gU_V mw888 mw889 mw890 mw5 mw891) rfl rfl rfl (by decide +kernel) ⟨Nat.le_of_ble_eq_true rfl, Nat.le_of_ble_eq_true rfl⟩) (k_preV hK hW (shM_lt (rfl : shM 0 = 12) (by decide)) (ceM_12 (rfl : shM 0 = 12)) (q := (RX12, TX12, 73)) rfl) rfl rfl hl.1 rfl (lv_room (Nat.le_of_ble_eq_true rfl)) dX12_next_69 ⟨Nat.le_refl 0, Nat.le_refl 0⟩) (fun r13 h14 H locs hq hW => ?_)
  rw [hq.1] at hW
  have hq := hq.2
  refine lv_icmp_ge (tgt := 143) hx hb dX12_next_72 (by decide) (fun c15 => ?_) (fun c15 => ?_)
  · have hq := hq.1 c15
    refine lv_iload hx hb dX12_next_143 (lv_at hl 3 rfl) ?_
    refine lv_if_lt (tgt := 158) hx hb dX12_next_145 (by decide) (fun c16 => ?_) (fun c16 => ?_)
    · have hq := hq.1 c16
      refine lv_iload hx hb dX12_next_158 (lv_at hl 4 rfl) ?_
      refine lv_istore (lv' := [(5, .int x7), (0, .ref (G.2.2 0)), (4, .int x4), (6, .int x6), (7, .int x7), (8, .int x8), (9, .int x9)]) hx hb dX12_next_160 hl (by decide) rfl (fun ls hl => ?_)
      refine lv_iload hx hb dX12_next_162 (lv_at hl 5 rfl) ?_
      refine lv_istore (lv' := [(6, .int x8), (5, .int x7), (0, .ref (G.2.2 0)), (4, .int x4), (7, .int x7), (8, .int x8), (9, .int x9)]) hx hb dX12_next_164 hl (by decide) rfl (fun ls hl => ?_)
      obtain ⟨x7_17, ex7_17⟩ : ∃ y : Int32, y = x7 + 1 := ⟨_, rfl⟩
      have hq := hq x7_17 ex7_17
      refine lv_iinc (v := x7_17) (lv' := [(7, .int x7_17), (6, .int x8), (5, .int x7), (0, .ref (G.2.2 0)), (4, .int x4), (8, .int x8), (9, .int x9)]) hx hb dX12_next_166 hl (k := 4) rfl (by rw [ex7_17]; rfl) (by decide) rfl (fun ls hl => ?_)
      refine lv_goto (tgt := 49) hx hb dX12_next_169 (by decide) ?_
      exact hX49 _ _ _ _ _ _ _ hW (lv_sub hl [3, 4, 2, 1, 0] rfl) hq
    · have hq := hq.2 c16
      refine lv_iload hx hb dX12_next_148 (lv_at hl 5 rfl) ?_
      refine lv_iload hx hb dX12_next_150 (lv_at hl 3 rfl) ?_
      refine lv_icmp_lt (tgt := 158) hx hb dX12_next_152 (by decide) (fun c18 => ?_) (fun c18 => ?_)
      · have hq := hq.1 c18
        refine lv_iload hx hb dX12_next_158 (lv_at hl 4 rfl) ?_
        refine lv_istore (lv' := [(5, .int x7), (0, .ref (G.2.2 0)), (4, .int x4), (6, .int x6), (7, .int x7), (8, .int x8), (9, .int x9)]) hx hb dX12_next_160 hl (by decide) rfl (fun ls hl => ?_)
        refine lv_iload hx hb dX12_next_162 (lv_at hl 5 rfl) ?_
        refine lv_istore (lv' := [(6, .int x8), (5, .int x7), (0, .ref (G.2.2 0)), (4, .int x4), (7, .int x7), (8, .int x8), (9, .int x9)]) hx hb dX12_next_164 hl (by decide) rfl (fun ls hl => ?_)
        obtain ⟨x7_19, ex7_19⟩ : ∃ y : Int32, y = x7 + 1 := ⟨_, rfl⟩
        have hq := hq x7_19 ex7_19
        refine lv_iinc (v := x7_19) (lv' := [(7, .int x7_19), (6, .int x8), (5, .int x7), (0, .ref (G.2.2 0)), (4, .int x4), (8, .int x8), (9, .int x9)]) hx hb dX12_next_166 hl (k := 4) rfl (by rw [ex7_19]; rfl) (by decide) rfl (fun ls hl => ?_)
        refine lv_goto (tgt := 49) hx hb dX12_next_169 (by decide) ?_
        exact hX49 _ _ _ _ _ _ _ hW (lv_sub hl [3, 4, 2, 1, 0] rfl) hq
      · have hq := hq.2 c18
        refine lv_goto (tgt := 166) hx hb dX12_next_155 (by decide) ?_
        obtain ⟨x7_20, ex7_20⟩ : ∃ y : Int32, y = x7 + 1 := ⟨_, rfl⟩
        have hq := hq x7_20 ex7_20
        refine lv_iinc (v := x7_20) (lv' := [(7, .int x7_20), (0, .ref (G.2.2 0)), (4, .int x4), (5, .int x5), (6, .int x6), (8, .int x8), (9, .int x9)]) hx hb dX12_next_166 hl (k := 4) rfl (by rw [ex7_20]; rfl) (by decide) rfl (fun ls hl => ?_)
        refine lv_goto (tgt := 49) hx hb dX12_next_169 (by decide) ?_
        exact hX49 _ _ _ _ _ _ _ hW (lv_sub hl [1, 2, 3, 4, 0] rfl) hq
  · have hq := hq.2 c15
    refine lv_aload_n hx hb dX12_next_75 rfl (lv_at hl 0 rfl) ?_
    refine gt12_60 C hK hW (rfl : shM 0 = 12) (List.mem_cons_of_mem _ mw305) (fun _ h9 => List.mem_cons_of_mem _ (inU_wsX120 _ h9)) dX12_next_76 ?_
    refine lv_iload hx hb dX12_next_79 (lv_at hl 6 rfl) ?_
    refine k_zald C hK hW (shM_lt (rfl : shM 40 = 16) (by decide)) (ceM_16 (rfl : shM 40 = 16) (rfl : lnM 40 = 10000)) hq.1 dX12_next_81 ?_
    have hq := hq.2
    refine lv_if_ne (tgt := 88) hx hb dX12_next_82 (by decide) (fun c21 => ?_) (fun c21 => ?_)
    · have hq := hq.1 c21
      refine lv_aload_n hx hb dX12_next_88 rfl (lv_at hl 0 rfl) ?_
      refine lv_aload_n hx hb dX12_next_89 rfl (lv_at hl 0 rfl) ?_
      refine lv_iload hx hb dX12_next_90 (lv_at hl 6 rfl) ?_
      refine lv_iload hx hb dX12_next_92 (lv_at hl 4 rfl) ?_
      refine lv_i2l (v := x7.toInt64) hx hb dX12_next_94 rfl ?_
      refine k_cl hW (va_runV (As := [.int x9, .long (x7.toInt64)]) (rest := [.ref (G.2.2 0)]) (k_fix C) (c_X12_worldComes l G h x9 (x7.toInt64) _ hq) (cwV 2 C.2.2.2.2.2.1 (gU_V mw892 mw893 mw894 mw5 mw895) rfl rfl rfl (by decide +kernel) ⟨Nat.le_of_ble_eq_true rfl, Nat.le_of_ble_eq_true rfl⟩) (k_preV hK hW (shM_lt (rfl : shM 0 = 12) (by decide)) (ceM_12 (rfl : shM 0 = 12)) (q := (RX12, TX12, 73)) rfl) rfl rfl hl.1 rfl (lv_room (Nat.le_of_ble_eq_true rfl)) dX12_next_95 ⟨Nat.le_refl 0, Nat.le_refl 0⟩) (fun r22 h23 H locs hq hW => ?_)
      rw [hq.1] at hW
      have hq := hq.2
      refine lv_iload hx hb dX12_next_98 (lv_at hl 6 rfl) ?_
      refine k_ci hW (va_runV (As := [.long r22, .int x9]) (rest := []) (k_fix C) (c_X12_keyAt l G h r22 x9 _ hq) (cwV 2 C.2.2.2.2.2.1 (gU_V mw900 mw901 mw902 mw5 mw903) rfl rfl rfl (by decide +kernel) ⟨Nat.le_of_ble_eq_true rfl, Nat.le_of_ble_eq_true rfl⟩) (k_preV hK hW (shM_lt (rfl : shM 0 = 12) (by decide)) (ceM_12 (rfl : shM 0 = 12)) (q := (RX12, TX12, 73)) rfl) rfl rfl hl.1 rfl (lv_room (Nat.le_of_ble_eq_true rfl)) dX12_next_100 ⟨Nat.le_refl 0, Nat.le_refl 0⟩) (fun r25 h24 H locs hq hW => ?_)
      refine lv_istore (lv' := [(10, .int r25), (0, .ref (G.2.2 0)), (4, .int x4), (5, .int x5), (6, .int x6), (7, .int x7), (8, .int x8), (9, .int x9)]) hx hb dX12_next_103 hl (by decide) rfl (fun ls hl => ?_)
      refine lv_aload_n hx hb dX12_next_105 rfl (lv_at hl 1 rfl) ?_
      refine gt12_53 C hK hW (rfl : shM 0 = 12) (List.mem_cons_of_mem _ mw301) (fun _ h9 => List.mem_cons_of_mem _ (inU_wsX120 _ h9)) dX12_next_106 ?_
      refine lv_iload hx hb dX12_next_109 (lv_at hl 0 rfl) ?_
      refine lv_dup2_11 hx hb dX12_next_111 rfl rfl ?_
      refine k_iald C hK hW (shM_lt (rfl : shM 36 = 14) (by decide)) (ceM_14 (rfl : shM 36 = 14) (rfl : lnM 36 = 32768)) hq.1 dX12_next_112 ?_
      have hq := hq.2
      refine lv_iconst (v := 1) hx hb dX12_next_113 (by decide) ?_
      refine lv_iadd hx hb dX12_next_114 ?_
      refine k_iast okM C hK hW (shM_lt (rfl : shM 36 = 14) (by decide)) (fun g9 => ceM_14 (rfl : shM 36 = 14) (rfl : lnM 36 = 32768)) hq.1 dX12_next_115 (fun H locs hW => ?_)
      have hq := hq.2
      obtain ⟨h26, eh26⟩ : ∃ z : hp, z = sI h24 36 (ix r25) ((gI h24 36 (ix r25)) + 1) := ⟨_, rfl⟩
      rw [← eh26] at hW
      have hq := hq h26 eh26
      refine lv_aload_n hx hb dX12_next_116 rfl (lv_at hl 1 rfl) ?_
      refine gt12_53 C hK hW (rfl : shM 0 = 12) (List.mem_cons_of_mem _ mw301) (fun _ h9 => List.mem_cons_of_mem _ (inU_wsX120 _ h9)) dX12_next_117 ?_
      refine lv_iload hx hb dX12_next_120 (lv_at hl 0 rfl) ?_
      refine k_iald C hK hW (shM_lt (rfl : shM 36 = 14) (by decide)) (ceM_14 (rfl : shM 36 = 14) (rfl : lnM 36 = 32768)) hq.1 dX12_next_122 ?_
      have hq := hq.2
      refine lv_iload hx hb dX12_next_123 (lv_at hl 6 rfl) ?_
      refine lv_icmp_le (tgt := 137) hx hb dX12_next_125 (by decide) (fun c27 => ?_) (fun c27 => ?_)
      · have hq := hq.1 c27
        obtain ⟨x9_28, ex9_28⟩ : ∃ y : Int32, y = x9 + 1 := ⟨_, rfl⟩
        have hq := hq x9_28 ex9_28
        refine lv_iinc (v := x9_28) (lv' := [(9, .int x9_28), (10, .int r25), (0, .ref (G.2.2 0)), (4, .int x4), (5, .int x5), (6, .int x6), (7, .int x7), (8, .int x8)]) hx hb dX12_next_137 hl (k := 7) rfl (by rw [ex9_28]; rfl) (by decide) rfl (fun ls hl => ?_)
        refine lv_goto (tgt := 66) hx hb dX12_next_140 (by decide) ?_
        exact hX66 _ _ _ _ _ _ hW (lv_sub hl [2, 3, 4, 5, 6, 7, 0] rfl) hq
      · have hq := hq.2 c27
        refine lv_aload_n hx hb dX12_next_128 rfl (lv_at hl 1 rfl) ?_
        refine gt12_53 C hK hW (rfl : shM 0 = 12) (List.mem_cons_of_mem _ mw301) (fun _ h9 => List.mem_cons_of_mem _ (inU_wsX120 _ h9)) dX12_next_129 ?_
        refine lv_iload hx hb dX12_next_132 (lv_at hl 0 rfl) ?_
        refine k_iald C hK hW (shM_lt (rfl : shM 36 = 14) (by decide)) (ceM_14 (rfl : shM 36 = 14) (rfl : lnM 36 = 32768)) hq.1 dX12_next_134 ?_
        have hq := hq.2
        refine lv_topi (fun x8_29 ex8_29 => ?_)
        have hq := hq x8_29 ex8_29
        refine lv_istore (lv' := [(8, .int x8_29), (10, .int r25), (0, .ref (G.2.2 0)), (4, .int x4), (5, .int x5), (6, .int x6), (7, .int x7), (9, .int x9)]) hx hb dX12_next_135 hl (by decide) rfl (fun ls hl => ?_)
        obtain ⟨x9_30, ex9_30⟩ : ∃ y : Int32, y = x9 + 1 := ⟨_, rfl⟩
        have hq := hq x9_30 ex9_30
        refine lv_iinc (v := x9_30) (lv' := [(9, .int x9_30), (8, .int x8_29), (10, .int r25), (0, .ref (G.2.2 0)), (4, .int x4), (5, .int x5), (6, .int x6), (7, .int x7)]) hx hb dX12_next_137 hl (k := 7) rfl (by rw [ex9_30]; rfl) (by decide) rfl (fun ls hl => ?_)
        refine lv_goto (tgt := 66) hx hb dX12_next_140 (by decide) ?_
        exact hX66 _ _ _ _ _ _ hW (lv_sub hl [3, 4, 5, 6, 7, 1, 0] rfl) hq
    · have hq := hq.2 c21
      refine lv_goto (tgt := 137) hx hb dX12_next_85 (by decide) ?_
      obtain ⟨x9_31, ex9_31⟩ : ∃ y : Int32, y = x9 + 1 := ⟨_, rfl⟩
      have hq := hq x9_31 ex9_31
      refine lv_iinc (v := x9_31) (lv' := [(9, .int x9_31), (0, .ref (G.2.2 0)), (4, .int x4), (5, .int x5), (6, .int x6), (7, .int x7), (8, .int x8)]) hx hb dX12_next_137 hl (k := 6) rfl (by rw [ex9_31]; rfl) (by decide) rfl (fun ls hl => ?_)
      refine lv_goto (tgt := 66) hx hb dX12_next_140 (by decide) ?_
      exact hX66 _ _ _ _ _ _ hW (lv_sub hl [1, 2, 3, 4, 5, 6, 0] rfl) hq
theorem k_X12_next_66 {Q : Int32 → hp → Prop} {X49 : Int32 × Int32 × Int32 × hp → Prop} {x4 : Int32} {x5 : Int32} {x6 : Int32} {x7 : Int32} (C : kC p s m args meth c cX12_next 11 (some .int) RX12 wUX12_next) (hK : kK G s) (hX49 : ∀ (x5 : Int32) (x6 : Int32) (x7 : Int32) (h : hp) (H : Heap) (locs : List Loc) (ls : Array Slot), kW SM G h (aS SM G) s H locs → lv_has ls 11 [(0, .ref (G.2.2 0)), (4, .int x4), (5, .int x5), (6, .int x6), (7, .int x7)] → X49 (x5, x6, x7, h) → W p l e rmX12_next s m args below meth c H locs 0 0 (MQ below (va_Qi Q (kB SM G) (aS SM G)) args s 0 0 (aS SM G)) (F0 m 49 ls [])) {x8 : Int32} {x9 : Int32} {h : hp} {H : Heap} {locs : List Loc} {ls : Array Slot} (hW : kW SM G h (aS SM G) s H locs) (hl : lv_has ls 11 [(0, .ref (G.2.2 0)), (4, .int x4), (5, .int x5), (6, .int x6), (7, .int x7), (8, .int x8), (9, .int x9)]) (hq : w_X12_next_66 Q X49 x4 x5 x6 x7 x8 x9 h) : W p l e rmX12_next s m args below meth c H locs 0 0 (MQ below (va_Qi Q (kB SM G) (aS SM G)) args s 0 0 (aS SM G)) (F0 m 66 ls []) := by
  have key := hq (fun (q : Int32 × Int32 × hp) => ∀ (H : Heap) (locs : List Loc) (ls : Array Slot), kW SM G q.2.2 (aS SM G) s H locs → lv_has ls 11 [(0, .ref (G.2.2 0)), (4, .int x4), (5, .int x5), (6, .int x6), (7, .int x7), (8, .int q.1), (9, .int q.2.1)] → W p l e rmX12_next s m args below meth c H locs 0 0 (MQ below (va_Qi Q (kB SM G) (aS SM G)) args s 0 0 (aS SM G)) (F0 m 66 ls []))
    (fun q hq H locs ls hW hl => k_X12_next_b66 C hK hX49 (fun x8 x9 h H locs ls hW hl hI => hI H locs ls hW hl) hW hl hq)
  exact key _ _ _ hW hl
theorem k_X12_next_b49 {Q : Int32 → hp → Prop} {X49 : Int32 × Int32 × Int32 × hp → Prop} {x4 : Int32} (C : kC p s m args meth c cX12_next 11 (some .int) RX12 wUX12_next) (hK : kK G s) (hX49 : ∀ (x5 : Int32) (x6 : Int32) (x7 : Int32) (h : hp) (H : Heap) (locs : List Loc) (ls : Array Slot), kW SM G h (aS SM G) s H locs → lv_has ls 11 [(0, .ref (G.2.2 0)), (4, .int x4), (5, .int x5), (6, .int x6), (7, .int x7)] → X49 (x5, x6, x7, h) → W p l e rmX12_next s m args below meth c H locs 0 0 (MQ below (va_Qi Q (kB SM G) (aS SM G)) args s 0 0 (aS SM G)) (F0 m 49 ls [])) {x5 : Int32} {x6 : Int32} {x7 : Int32} {h : hp} {H : Heap} {locs : List Loc} {ls : Array Slot} (hW : kW SM G h (aS SM G) s H locs) (hl : lv_has ls 11 [(0, .ref (G.2.2 0)), (4, .int x4), (5, .int x5), (6, .int x6), (7, .int x7)]) (hq : w_X12_next_b49 Q x4 X49 x5 x6 x7 h) : W p l e rmX12_next s m args below meth c H locs 0 0 (MQ below (va_Qi Q (kB SM G) (aS SM G)) args s 0 0 (aS SM G)) (F0 m 49 ls []) := by
  have hx := C.1
  have hb := C.2.1
  unfold w_X12_next_b49 at hq
  refine lv_iload hx hb dX12_next_49 (lv_at hl 4 rfl) ?_
  refine lv_bipush (v := 10) hx hb dX12_next_51 (by decide) ?_
  refine lv_icmp_ge (tgt := 172) hx hb dX12_next_53 (by decide) (fun c10 => ?_) (fun c10 => ?_)
  · have hq := hq.1 c10
    refine lv_iload hx hb dX12_next_172 (lv_at hl 1 rfl) ?_
    refine lv_if_ne (tgt := 182) hx hb dX12_next_174 (by decide) (fun c11 => ?_) (fun c11 => ?_)
    · have hq := hq.1 c11
      refine lv_iload hx hb dX12_next_182 (lv_at hl 3 rfl) ?_
      exact k_iret rfl C hW dX12_next_184 hq
    · have hq := hq.2 c11
      refine lv_iload hx hb dX12_next_177 (lv_at hl 2 rfl) ?_
      refine lv_goto (tgt := 184) hx hb dX12_next_179 (by decide) ?_
      exact k_iret rfl C hW dX12_next_184 hq
  · have hq := hq.2 c10
    refine lv_aload_n hx hb dX12_next_56 rfl (lv_at hl 0 rfl) ?_
    refine k_cv hW (va_runV (As := []) (rest := []) (k_fix C) (c_X12_clears l G h _ hq) (cwV 0 C.2.2.2.2.2.1 (gU_V mw884 mw885 mw886 mw5 mw887) rfl rfl rfl (by decide +kernel) ⟨Nat.le_of_ble_eq_true rfl, Nat.le_of_ble_eq_true rfl⟩) (k_preV hK hW (shM_lt (rfl : shM 0 = 12) (by decide)) (ceM_12 (rfl : shM 0 = 12)) (q := (RX12, TX12, 73)) rfl) rfl rfl hl.1 rfl (lv_room (Nat.le_of_ble_eq_true rfl)) dX12_next_57 ⟨Nat.le_refl 0, Nat.le_refl 0⟩) (fun h12 H locs hq hW => ?_)
    refine lv_iconst (v := 0) hx hb dX12_next_60 (by decide) ?_
    refine lv_istore (lv' := [(8, .int 0), (0, .ref (G.2.2 0)), (4, .int x4), (5, .int x5), (6, .int x6), (7, .int x7)]) hx hb dX12_next_61 hl (by decide) rfl (fun ls hl => ?_)
    refine lv_iconst (v := 0) hx hb dX12_next_63 (by decide) ?_
    refine lv_istore (lv' := [(9, .int 0), (8, .int 0), (0, .ref (G.2.2 0)), (4, .int x4), (5, .int x5), (6, .int x6), (7, .int x7)]) hx hb dX12_next_64 hl (by decide) rfl (fun ls hl => ?_)
    exact k_X12_next_66 C hK hX49 hW (lv_sub hl [2, 3, 4, 5, 6, 1, 0] rfl) hq
theorem k_X12_next_49 {Q : Int32 → hp → Prop} {x4 : Int32} (C : kC p s m args meth c cX12_next 11 (some .int) RX12 wUX12_next) (hK : kK G s) {x5 : Int32} {x6 : Int32} {x7 : Int32} {h : hp} {H : Heap} {locs : List Loc} {ls : Array Slot} (hW : kW SM G h (aS SM G) s H locs) (hl : lv_has ls 11 [(0, .ref (G.2.2 0)), (4, .int x4), (5, .int x5), (6, .int x6), (7, .int x7)]) (hq : w_X12_next_49 Q x4 x5 x6 x7 h) : W p l e rmX12_next s m args below meth c H locs 0 0 (MQ below (va_Qi Q (kB SM G) (aS SM G)) args s 0 0 (aS SM G)) (F0 m 49 ls []) := by
  have key := hq (fun (q : Int32 × Int32 × Int32 × hp) => ∀ (H : Heap) (locs : List Loc) (ls : Array Slot), kW SM G q.2.2.2 (aS SM G) s H locs → lv_has ls 11 [(0, .ref (G.2.2 0)), (4, .int x4), (5, .int q.1), (6, .int q.2.1), (7, .int q.2.2.1)] → W p l e rmX12_next s m args below meth c H locs 0 0 (MQ below (va_Qi Q (kB SM G) (aS SM G)) args s 0 0 (aS SM G)) (F0 m 49 ls []))
    (fun q hq H locs ls hW hl => k_X12_next_b49 C hK (fun x5 x6 x7 h H locs ls hW hl hI => hI H locs ls hW hl) hW hl hq)
  exact key _ _ _ hW hl
theorem k_X12_next_0 {Q : Int32 → hp → Prop} {x1 : Int32} {x2 : Int32} {x3 : Int32} {x4 : Int32} {h : hp} (C : kC p s m args meth c cX12_next 11 (some .int) RX12 wUX12_next) (hK : kK G s) {H : Heap} {locs : List Loc} {ls : Array Slot} (hW : kW SM G h (aS SM G) s H locs) (hl : lv_has ls 11 [(0, .ref (G.2.2 0)), (1, .int x1), (2, .int x2), (3, .int x3), (4, .int x4)]) (hq : w_X12_next_0 Q x1 x2 x3 x4 h) : W p l e rmX12_next s m args below meth c H locs 0 0 (MQ below (va_Qi Q (kB SM G) (aS SM G)) args s 0 0 (aS SM G)) (F0 m 0 ls []) := by
  have hx := C.1
  have hb := C.2.1
  unfold w_X12_next_0 at hq
  refine lv_aload_n hx hb dX12_next_0 rfl (lv_at hl 0 rfl) ?_
  refine lv_iload_n hx hb dX12_next_1 rfl (lv_at hl 1 rfl) ?_
  refine lv_iload_n hx hb dX12_next_2 rfl (lv_at hl 2 rfl) ?_
  refine lv_iload_n hx hb dX12_next_3 rfl (lv_at hl 3 rfl) ?_
  refine k_ci hW (va_runV (As := [.int x1, .int x2, .int x3]) (rest := []) (k_fix C) (c_X12_isAsked l G h x1 x2 x3 _ hq) (cwV 3 C.2.2.2.2.2.1 (gU_V mw988 mw989 mw990 mw5 mw991) rfl rfl rfl (by decide +kernel) ⟨Nat.le_of_ble_eq_true rfl, Nat.le_of_ble_eq_true rfl⟩) (k_preV hK hW (shM_lt (rfl : shM 0 = 12) (by decide)) (ceM_12 (rfl : shM 0 = 12)) (q := (RX12, TX12, 73)) rfl) rfl rfl hl.1 rfl (lv_room (Nat.le_of_ble_eq_true rfl)) dX12_next_4 ⟨Nat.le_refl 0, Nat.le_refl 0⟩) (fun r1 h2 H locs hq hW => ?_)
  rw [hq.1] at hW
  have hq := hq.2
  refine lv_if_eq (tgt := 21) hx hb dX12_next_7 (by decide) (fun c3 => ?_) (fun c3 => ?_)
  · have hq := hq.1 c3
    refine lv_sipush (v := (-1000)) hx hb dX12_next_21 (by decide) ?_
    exact k_iret rfl C hW dX12_next_24 hq
  · have hq := hq.2 c3
    refine lv_iload hx hb dX12_next_10 (lv_at hl 4 rfl) ?_
    refine lv_i2l (v := x4.toInt64) hx hb dX12_next_12 rfl ?_
    refine lv_lconst (v := 0) hx hb dX12_next_13 (by decide) ?_
    refine lv_lconst (v := 1) hx hb dX12_next_14 (by decide) ?_
    refine k_ci hW (va_runS (As := [.long (x4.toInt64), .long 0, .long 1]) (rest := []) (k_fix C) (c_X12_in l G h (x4.toInt64) 0 1 _ hq) (va_cwS 3 C.2.2.2.2.2.1 (gU_S mw762 mw763 mw5 mw764) rfl rfl rfl (by decide +kernel) ⟨Nat.le_of_ble_eq_true rfl, Nat.le_of_ble_eq_true rfl⟩) (k_preS hK hW) rfl rfl hl.1 rfl (lv_room (Nat.le_of_ble_eq_true rfl)) dX12_next_15 ⟨Nat.le_refl 0, Nat.le_refl 0⟩) (fun r4 h5 H locs hq hW => ?_)
    rw [hq.1] at hW
    have hq := hq.2
    refine lv_if_ne (tgt := 25) hx hb dX12_next_18 (by decide) (fun c6 => ?_) (fun c6 => ?_)
    · have hq := hq.1 c6
      refine lv_aload_n hx hb dX12_next_25 rfl (lv_at hl 0 rfl) ?_
      refine lv_iload_n hx hb dX12_next_26 rfl (lv_at hl 1 rfl) ?_
      refine lv_iload_n hx hb dX12_next_27 rfl (lv_at hl 2 rfl) ?_
      refine lv_iload_n hx hb dX12_next_28 rfl (lv_at hl 3 rfl) ?_
      refine k_ci hW (va_runV (As := [.int x1, .int x2, .int x3]) (rest := []) (k_fix C) (c_X12_fillsFits l G h x1 x2 x3 _ hq) (cwV 3 C.2.2.2.2.2.1 (gU_V mw994 mw995 mw996 mw5 mw997) rfl rfl rfl (by decide +kernel) ⟨Nat.le_of_ble_eq_true rfl, Nat.le_of_ble_eq_true rfl⟩) (k_preV hK hW (shM_lt (rfl : shM 0 = 12) (by decide)) (ceM_12 (rfl : shM 0 = 12)) (q := (RX12, TX12, 73)) rfl) rfl rfl hl.1 rfl (lv_room (Nat.le_of_ble_eq_true rfl)) dX12_next_29 ⟨Nat.le_refl 0, Nat.le_refl 0⟩) (fun r8 h7 H locs hq hW => ?_)
      refine lv_if_ne (tgt := 39) hx hb dX12_next_32 (by decide) (fun c9 => ?_) (fun c9 => ?_)
      · have hq := hq.1 c9
        refine lv_iconst (v := 0) hx hb dX12_next_39 (by decide) ?_
        refine lv_istore (lv' := [(5, .int 0), (0, .ref (G.2.2 0)), (1, .int x1), (2, .int x2), (3, .int x3), (4, .int x4)]) hx hb dX12_next_40 hl (by decide) rfl (fun ls hl => ?_)
        refine lv_iconst (v := (-1)) hx hb dX12_next_42 (by decide) ?_
        refine lv_istore (lv' := [(6, .int (-1)), (5, .int 0), (0, .ref (G.2.2 0)), (1, .int x1), (2, .int x2), (3, .int x3), (4, .int x4)]) hx hb dX12_next_43 hl (by decide) rfl (fun ls hl => ?_)
        refine lv_bipush (v := (-9)) hx hb dX12_next_45 (by decide) ?_
        refine lv_istore (lv' := [(7, .int (-9)), (6, .int (-1)), (5, .int 0), (0, .ref (G.2.2 0)), (1, .int x1), (2, .int x2), (3, .int x3), (4, .int x4)]) hx hb dX12_next_47 hl (by decide) rfl (fun ls hl => ?_)
        exact k_X12_next_49 C hK hW (lv_sub hl [3, 7, 2, 1, 0] rfl) hq
      · have hq := hq.2 c9
        refine lv_sipush (v := (-2000)) hx hb dX12_next_35 (by decide) ?_
        exact k_iret rfl C hW dX12_next_38 hq
    · have hq := hq.2 c6
      refine lv_sipush (v := (-1000)) hx hb dX12_next_21 (by decide) ?_
      exact k_iret rfl C hW dX12_next_24 hq
theorem c_X12_next (l : Launch) (G : wG) (h : hp) (x1 : Int32) (x2 : Int32) (x3 : Int32) (x4 : Int32) (Q : Int32 → hp → Prop) (hq : w_X12_next h x1 x2 x3 x4 Q) : ctI l SM G yX12_next wUX12_next rmX12_next h [.ref (G.2.2 0), .int x1, .int x2, .int x3, .int x4] Q := by
  refine k_start (cc := cX12_next) (maxL := 11) (rt := (some .int)) (own := RX12) (by decide +kernel) rfl rfl (Nat.le_of_ble_eq_true rfl) ?_
  intro p e s m below meth c ls C hK hW hl
  exact k_X12_next_0 C hK hW hl hq
theorem k_X12_worldsAt_b22 {Q : Int32 → Prop} {X22 : Int32 × Int32 → Prop} {x1 : Int32} {x2 : Int64} {h : hp} (C : kC p s m args meth c cX12_worldsAt 6 (some .int) RX12 wUX12_worldsAt) (hK : kK G s) (hX22 : ∀ (x4 : Int32) (x5 : Int32) (H : Heap) (locs : List Loc) (ls : Array Slot), kW SM G h (aS SM G) s H locs → lv_has ls 6 [(0, .ref (G.2.2 0)), (1, .int x1), (2, .long x2), (4, .int x4), (5, .int x5)] → X22 (x4, x5) → W p l e rmX12_worldsAt s m args below meth c H locs 0 0 (MQ below (va_Qi (fun r9 h9 => h9 = h ∧ Q r9) (kB SM G) (aS SM G)) args s 0 0 (aS SM G)) (F0 m 22 ls [])) {x4 : Int32} {x5 : Int32} {H : Heap} {locs : List Loc} {ls : Array Slot} (hW : kW SM G h (aS SM G) s H locs) (hl : lv_has ls 6 [(0, .ref (G.2.2 0)), (1, .int x1), (2, .long x2), (4, .int x4), (5, .int x5)]) (hq : w_X12_worldsAt_b22 Q x1 x2 h X22 x4 x5) : W p l e rmX12_worldsAt s m args below meth c H locs 0 0 (MQ below (va_Qi (fun r9 h9 => h9 = h ∧ Q r9) (kB SM G) (aS SM G)) args s 0 0 (aS SM G)) (F0 m 22 ls []) := by
  have hx := C.1
  have hb := C.2.1
  unfold w_X12_worldsAt_b22 at hq
  refine lv_iload hx hb dX12_worldsAt_22 (lv_at hl 4 rfl) ?_
  refine lv_aload_n hx hb dX12_worldsAt_24 rfl (lv_at hl 0 rfl) ?_
  refine k_ci hW (va_runV (As := []) (rest := [.int x5]) (k_fix C) (c_X12_worldAll l G h _ hq) (cwV 0 C.2.2.2.2.2.1 (gU_V mw888 mw889 mw890 mw5 mw891) rfl rfl rfl (by decide +kernel) ⟨Nat.le_of_ble_eq_true rfl, Nat.le_of_ble_eq_true rfl⟩) (k_preV hK hW (shM_lt (rfl : shM 0 = 12) (by decide)) (ceM_12 (rfl : shM 0 = 12)) (q := (RX12, TX12, 73)) rfl) rfl rfl hl.1 rfl (lv_room (Nat.le_of_ble_eq_true rfl)) dX12_worldsAt_25 ⟨Nat.le_refl 0, Nat.le_refl 0⟩) (fun r4 h5 H locs hq hW => ?_)
  rw [hq.1] at hW
  have hq := hq.2
  refine lv_icmp_ge (tgt := 53) hx hb dX12_worldsAt_28 (by decide) (fun c6 => ?_) (fun c6 => ?_)
  · have hq := hq.1 c6
    refine lv_iload hx hb dX12_worldsAt_53 (lv_at hl 3 rfl) ?_
    exact k_iret rfl C hW dX12_worldsAt_55 ⟨rfl, hq⟩
  · have hq := hq.2 c6
    refine lv_aload_n hx hb dX12_worldsAt_31 rfl (lv_at hl 0 rfl) ?_
    refine lv_iload hx hb dX12_worldsAt_32 (lv_at hl 4 rfl) ?_
    refine lv_iload_n hx hb dX12_worldsAt_34 rfl (lv_at hl 1 rfl) ?_
    refine lv_i2l (v := x1.toInt64) hx hb dX12_worldsAt_35 rfl ?_
    refine k_cl hW (va_runV (As := [.int x5, .long (x1.toInt64)]) (rest := []) (k_fix C) (c_X12_worldComes l G h x5 (x1.toInt64) _ hq) (cwV 2 C.2.2.2.2.2.1 (gU_V mw892 mw893 mw894 mw5 mw895) rfl rfl rfl (by decide +kernel) ⟨Nat.le_of_ble_eq_true rfl, Nat.le_of_ble_eq_true rfl⟩) (k_preV hK hW (shM_lt (rfl : shM 0 = 12) (by decide)) (ceM_12 (rfl : shM 0 = 12)) (q := (RX12, TX12, 73)) rfl) rfl rfl hl.1 rfl (lv_room (Nat.le_of_ble_eq_true rfl)) dX12_worldsAt_36 ⟨Nat.le_refl 0, Nat.le_refl 0⟩) (fun r7 h8 H locs hq hW => ?_)
    rw [hq.1] at hW
    have hq := hq.2
    refine lv_lload_n hx hb dX12_worldsAt_39 rfl (lv_at hl 2 rfl) ?_
    refine W.lcmp hx hb dX12_worldsAt_40 ?_
    refine lv_if_ne (tgt := 47) hx hb dX12_worldsAt_41 (by decide) (fun c9 => ?_) (fun c9 => ?_)
    · have hq := hq.1 (fun z => c9 ((lg_cmp_eq _ _).mpr z))
      obtain ⟨x5_10, ex5_10⟩ : ∃ y : Int32, y = x5 + 1 := ⟨_, rfl⟩
      have hq := hq x5_10 ex5_10
      refine lv_iinc (v := x5_10) (lv' := [(5, .int x5_10), (0, .ref (G.2.2 0)), (1, .int x1), (2, .long x2), (4, .int x4)]) hx hb dX12_worldsAt_47 hl (k := 4) rfl (by rw [ex5_10]; rfl) (by decide) rfl (fun ls hl => ?_)
      refine lv_goto (tgt := 22) hx hb dX12_worldsAt_50 (by decide) ?_
      exact hX22 _ _ _ _ _ hW (lv_sub hl [1, 2, 3, 4, 0] rfl) hq
    · have hq := hq.2 ((lg_cmp_eq _ _).mp c9)
      obtain ⟨x4_11, ex4_11⟩ : ∃ y : Int32, y = x4 + 1 := ⟨_, rfl⟩
      have hq := hq x4_11 ex4_11
      refine lv_iinc (v := x4_11) (lv' := [(4, .int x4_11), (0, .ref (G.2.2 0)), (1, .int x1), (2, .long x2), (5, .int x5)]) hx hb dX12_worldsAt_44 hl (k := 3) rfl (by rw [ex4_11]; rfl) (by decide) rfl (fun ls hl => ?_)
      obtain ⟨x5_12, ex5_12⟩ : ∃ y : Int32, y = x5 + 1 := ⟨_, rfl⟩
      have hq := hq x5_12 ex5_12
      refine lv_iinc (v := x5_12) (lv' := [(5, .int x5_12), (4, .int x4_11), (0, .ref (G.2.2 0)), (1, .int x1), (2, .long x2)]) hx hb dX12_worldsAt_47 hl (k := 4) rfl (by rw [ex5_12]; rfl) (by decide) rfl (fun ls hl => ?_)
      refine lv_goto (tgt := 22) hx hb dX12_worldsAt_50 (by decide) ?_
      exact hX22 _ _ _ _ _ hW (lv_sub hl [2, 3, 4, 1, 0] rfl) hq
theorem k_X12_worldsAt_22 {Q : Int32 → Prop} {x1 : Int32} {x2 : Int64} {h : hp} (C : kC p s m args meth c cX12_worldsAt 6 (some .int) RX12 wUX12_worldsAt) (hK : kK G s) {x4 : Int32} {x5 : Int32} {H : Heap} {locs : List Loc} {ls : Array Slot} (hW : kW SM G h (aS SM G) s H locs) (hl : lv_has ls 6 [(0, .ref (G.2.2 0)), (1, .int x1), (2, .long x2), (4, .int x4), (5, .int x5)]) (hq : w_X12_worldsAt_22 Q x1 x2 h x4 x5) : W p l e rmX12_worldsAt s m args below meth c H locs 0 0 (MQ below (va_Qi (fun r9 h9 => h9 = h ∧ Q r9) (kB SM G) (aS SM G)) args s 0 0 (aS SM G)) (F0 m 22 ls []) := by
  have key := hq (fun (q : Int32 × Int32) => ∀ (H : Heap) (locs : List Loc) (ls : Array Slot), kW SM G h (aS SM G) s H locs → lv_has ls 6 [(0, .ref (G.2.2 0)), (1, .int x1), (2, .long x2), (4, .int q.1), (5, .int q.2)] → W p l e rmX12_worldsAt s m args below meth c H locs 0 0 (MQ below (va_Qi (fun r9 h9 => h9 = h ∧ Q r9) (kB SM G) (aS SM G)) args s 0 0 (aS SM G)) (F0 m 22 ls []))
    (fun q hq H locs ls hW hl => k_X12_worldsAt_b22 C hK (fun x4 x5 H locs ls hW hl hI => hI H locs ls hW hl) hW hl hq)
  exact key _ _ _ hW hl
theorem k_X12_worldsAt_0 {Q : Int32 → Prop} {x1 : Int32} {x2 : Int64} {h : hp} (C : kC p s m args meth c cX12_worldsAt 6 (some .int) RX12 wUX12_worldsAt) (hK : kK G s) {H : Heap} {locs : List Loc} {ls : Array Slot} (hW : kW SM G h (aS SM G) s H locs) (hl : lv_has ls 6 [(0, .ref (G.2.2 0)), (1, .int x1), (2, .long x2)]) (hq : w_X12_worldsAt_0 Q x1 x2 h) : W p l e rmX12_worldsAt s m args below meth c H locs 0 0 (MQ below (va_Qi (fun r9 h9 => h9 = h ∧ Q r9) (kB SM G) (aS SM G)) args s 0 0 (aS SM G)) (F0 m 0 ls []) := by
  have hx := C.1
  have hb := C.2.1
  unfold w_X12_worldsAt_0 at hq
  refine lv_iload_n hx hb dX12_worldsAt_0 rfl (lv_at hl 1 rfl) ?_
  refine lv_i2l (v := x1.toInt64) hx hb dX12_worldsAt_1 rfl ?_
  refine lv_ldc2 (v := (-99)) hx hb C.2.2.2.2.1 (C.2.2.2.2.2.1 _ (List.mem_cons_of_mem _ mw946)) dX12_worldsAt_2 ?_
  refine lv_ldc2 (v := 99) hx hb C.2.2.2.2.1 (C.2.2.2.2.2.1 _ (List.mem_cons_of_mem _ mw947)) dX12_worldsAt_5 ?_
  refine k_ci hW (va_runS (As := [.long (x1.toInt64), .long (-99), .long 99]) (rest := []) (k_fix C) (c_X12_in l G h (x1.toInt64) (-99) 99 _ hq) (va_cwS 3 C.2.2.2.2.2.1 (gU_S mw762 mw763 mw5 mw764) rfl rfl rfl (by decide +kernel) ⟨Nat.le_of_ble_eq_true rfl, Nat.le_of_ble_eq_true rfl⟩) (k_preS hK hW) rfl rfl hl.1 rfl (lv_room (Nat.le_of_ble_eq_true rfl)) dX12_worldsAt_8 ⟨Nat.le_refl 0, Nat.le_refl 0⟩) (fun r1 h2 H locs hq hW => ?_)
  rw [hq.1] at hW
  have hq := hq.2
  refine lv_if_ne (tgt := 16) hx hb dX12_worldsAt_11 (by decide) (fun c3 => ?_) (fun c3 => ?_)
  · have hq := hq.1 c3
    refine lv_iconst (v := 0) hx hb dX12_worldsAt_16 (by decide) ?_
    refine lv_istore (lv' := [(4, .int 0), (0, .ref (G.2.2 0)), (1, .int x1), (2, .long x2)]) hx hb dX12_worldsAt_17 hl (by decide) rfl (fun ls hl => ?_)
    refine lv_iconst (v := 0) hx hb dX12_worldsAt_19 (by decide) ?_
    refine lv_istore (lv' := [(5, .int 0), (4, .int 0), (0, .ref (G.2.2 0)), (1, .int x1), (2, .long x2)]) hx hb dX12_worldsAt_20 hl (by decide) rfl (fun ls hl => ?_)
    exact k_X12_worldsAt_22 C hK hW (lv_sub hl [2, 3, 4, 1, 0] rfl) hq
  · have hq := hq.2 c3
    refine lv_iconst (v := (-1)) hx hb dX12_worldsAt_14 (by decide) ?_
    exact k_iret rfl C hW dX12_worldsAt_15 ⟨rfl, hq⟩
theorem c_X12_worldsAt (l : Launch) (G : wG) (h : hp) (x1 : Int32) (x2 : Int64) (Q : Int32 → Prop) (hq : w_X12_worldsAt h x1 x2 Q) : ctI l SM G yX12_worldsAt wUX12_worldsAt rmX12_worldsAt h [.ref (G.2.2 0), .int x1, .long x2] (fun r9 h9 => h9 = h ∧ Q r9) := by
  refine k_start (cc := cX12_worldsAt) (maxL := 6) (rt := (some .int)) (own := RX12) (by decide +kernel) rfl rfl (Nat.le_of_ble_eq_true rfl) ?_
  intro p e s m below meth c ls C hK hW hl
  exact k_X12_worldsAt_0 C hK hW hl hq
theorem k_X12_cost_b20 {Q : Int32 → Prop} {X20 : Int32 × Int32 → Prop} {x1 : Int32} {h : hp} (C : kC p s m args meth c cX12_cost 4 (some .int) RX12 wUX12_cost) (hK : kK G s) (hX20 : ∀ (x2 : Int32) (x3 : Int32) (H : Heap) (locs : List Loc) (ls : Array Slot), kW SM G h (aS SM G) s H locs → lv_has ls 4 [(0, .ref (G.2.2 0)), (1, .int x1), (2, .int x2), (3, .int x3)] → X20 (x2, x3) → W p l e rmX12_cost s m args below meth c H locs 0 0 (MQ below (va_Qi (fun r9 h9 => h9 = h ∧ Q r9) (kB SM G) (aS SM G)) args s 0 0 (aS SM G)) (F0 m 20 ls [])) {x2 : Int32} {x3 : Int32} {H : Heap} {locs : List Loc} {ls : Array Slot} (hW : kW SM G h (aS SM G) s H locs) (hl : lv_has ls 4 [(0, .ref (G.2.2 0)), (1, .int x1), (2, .int x2), (3, .int x3)]) (hq : w_X12_cost_b20 Q x1 h X20 x2 x3) : W p l e rmX12_cost s m args below meth c H locs 0 0 (MQ below (va_Qi (fun r9 h9 => h9 = h ∧ Q r9) (kB SM G) (aS SM G)) args s 0 0 (aS SM G)) (F0 m 20 ls []) := by
  have hx := C.1
  have hb := C.2.1
  unfold w_X12_cost_b20 at hq
  refine lv_iload_n hx hb dX12_cost_20 rfl (lv_at hl 3 rfl) ?_
  refine lv_iload_n hx hb dX12_cost_21 rfl (lv_at hl 1 rfl) ?_
  refine lv_icmp_ge (tgt := 44) hx hb dX12_cost_22 (by decide) (fun c4 => ?_) (fun c4 => ?_)
  · have hq := hq.1 c4
    refine lv_iload_n hx hb dX12_cost_44 rfl (lv_at hl 2 rfl) ?_
    exact k_iret rfl C hW dX12_cost_45 ⟨rfl, hq⟩
  · have hq := hq.2 c4
    refine lv_iload_n hx hb dX12_cost_25 rfl (lv_at hl 2 rfl) ?_
    refine lv_aload_n hx hb dX12_cost_26 rfl (lv_at hl 0 rfl) ?_
    refine gt12_58 C hK hW (rfl : shM 0 = 12) (List.mem_cons_of_mem _ mw303) (fun _ h9 => List.mem_cons_of_mem _ (inU_wsX120 _ h9)) dX12_cost_27 ?_
    refine lv_iload_n hx hb dX12_cost_30 rfl (lv_at hl 3 rfl) ?_
    refine k_iald C hK hW (shM_lt (rfl : shM 38 = 14) (by decide)) (ceM_14 (rfl : shM 38 = 14) (rfl : lnM 38 = 20)) hq.1 dX12_cost_31 ?_
    have hq := hq.2
    refine lv_i2l (v := (gI h 38 (ix x3)).toInt64) hx hb dX12_cost_32 rfl ?_
    refine k_ci hW (va_runS (As := [.long ((gI h 38 (ix x3)).toInt64)]) (rest := [.int x2]) (k_fix C) (c_X12_figures l G h ((gI h 38 (ix x3)).toInt64) _ hq) (va_cwS 1 C.2.2.2.2.2.1 (gU_S mw826 mw827 mw5 mw828) rfl rfl rfl (by decide +kernel) ⟨Nat.le_of_ble_eq_true rfl, Nat.le_of_ble_eq_true rfl⟩) (k_preS hK hW) rfl rfl hl.1 rfl (lv_room (Nat.le_of_ble_eq_true rfl)) dX12_cost_33 ⟨Nat.le_refl 0, Nat.le_refl 0⟩) (fun r5 h6 H locs hq hW => ?_)
    rw [hq.1] at hW
    have hq := hq.2
    refine lv_iadd hx hb dX12_cost_36 ?_
    refine lv_topi (fun x2_7 ex2_7 => ?_)
    have hq := hq x2_7 ex2_7
    refine lv_istore_n (lv' := [(2, .int x2_7), (0, .ref (G.2.2 0)), (1, .int x1), (3, .int x3)]) hx hb dX12_cost_37 rfl hl (by decide) rfl (fun ls hl => ?_)
    obtain ⟨x3_8, ex3_8⟩ : ∃ y : Int32, y = x3 + 1 := ⟨_, rfl⟩
    have hq := hq x3_8 ex3_8
    refine lv_iinc (v := x3_8) (lv' := [(3, .int x3_8), (2, .int x2_7), (0, .ref (G.2.2 0)), (1, .int x1)]) hx hb dX12_cost_38 hl (k := 3) rfl (by rw [ex3_8]; rfl) (by decide) rfl (fun ls hl => ?_)
    refine lv_goto (tgt := 20) hx hb dX12_cost_41 (by decide) ?_
    exact hX20 _ _ _ _ _ hW (lv_sub hl [2, 3, 1, 0] rfl) hq
theorem k_X12_cost_20 {Q : Int32 → Prop} {x1 : Int32} {h : hp} (C : kC p s m args meth c cX12_cost 4 (some .int) RX12 wUX12_cost) (hK : kK G s) {x2 : Int32} {x3 : Int32} {H : Heap} {locs : List Loc} {ls : Array Slot} (hW : kW SM G h (aS SM G) s H locs) (hl : lv_has ls 4 [(0, .ref (G.2.2 0)), (1, .int x1), (2, .int x2), (3, .int x3)]) (hq : w_X12_cost_20 Q x1 h x2 x3) : W p l e rmX12_cost s m args below meth c H locs 0 0 (MQ below (va_Qi (fun r9 h9 => h9 = h ∧ Q r9) (kB SM G) (aS SM G)) args s 0 0 (aS SM G)) (F0 m 20 ls []) := by
  have key := hq (fun (q : Int32 × Int32) => ∀ (H : Heap) (locs : List Loc) (ls : Array Slot), kW SM G h (aS SM G) s H locs → lv_has ls 4 [(0, .ref (G.2.2 0)), (1, .int x1), (2, .int q.1), (3, .int q.2)] → W p l e rmX12_cost s m args below meth c H locs 0 0 (MQ below (va_Qi (fun r9 h9 => h9 = h ∧ Q r9) (kB SM G) (aS SM G)) args s 0 0 (aS SM G)) (F0 m 20 ls []))
    (fun q hq H locs ls hW hl => k_X12_cost_b20 C hK (fun x2 x3 H locs ls hW hl hI => hI H locs ls hW hl) hW hl hq)
  exact key _ _ _ hW hl
theorem k_X12_cost_0 {Q : Int32 → Prop} {x1 : Int32} {h : hp} (C : kC p s m args meth c cX12_cost 4 (some .int) RX12 wUX12_cost) (hK : kK G s) {H : Heap} {locs : List Loc} {ls : Array Slot} (hW : kW SM G h (aS SM G) s H locs) (hl : lv_has ls 4 [(0, .ref (G.2.2 0)), (1, .int x1)]) (hq : w_X12_cost_0 Q x1 h) : W p l e rmX12_cost s m args below meth c H locs 0 0 (MQ below (va_Qi (fun r9 h9 => h9 = h ∧ Q r9) (kB SM G) (aS SM G)) args s 0 0 (aS SM G)) (F0 m 0 ls []) := by
  have hx := C.1
  have hb := C.2.1
  unfold w_X12_cost_0 at hq
  refine lv_iload_n hx hb dX12_cost_0 rfl (lv_at hl 1 rfl) ?_
  refine lv_i2l (v := x1.toInt64) hx hb dX12_cost_1 rfl ?_
  refine lv_lconst (v := 0) hx hb dX12_cost_2 (by decide) ?_
  refine lv_aload_n hx hb dX12_cost_3 rfl (lv_at hl 0 rfl) ?_
  refine gt12_57 C hK hW (rfl : shM 0 = 12) (List.mem_cons_of_mem _ mw617) (fun _ h9 => List.mem_cons_of_mem _ (inU_wsX120 _ h9)) dX12_cost_4 ?_
  refine lv_i2l (v := (gI h 0 57).toInt64) hx hb dX12_cost_7 rfl ?_
  refine k_ci hW (va_runS (As := [.long (x1.toInt64), .long 0, .long ((gI h 0 57).toInt64)]) (rest := []) (k_fix C) (c_X12_in l G h (x1.toInt64) 0 ((gI h 0 57).toInt64) _ hq) (va_cwS 3 C.2.2.2.2.2.1 (gU_S mw762 mw763 mw5 mw764) rfl rfl rfl (by decide +kernel) ⟨Nat.le_of_ble_eq_true rfl, Nat.le_of_ble_eq_true rfl⟩) (k_preS hK hW) rfl rfl hl.1 rfl (lv_room (Nat.le_of_ble_eq_true rfl)) dX12_cost_8 ⟨Nat.le_refl 0, Nat.le_refl 0⟩) (fun r1 h2 H locs hq hW => ?_)
  rw [hq.1] at hW
  have hq := hq.2
  refine lv_if_ne (tgt := 16) hx hb dX12_cost_11 (by decide) (fun c3 => ?_) (fun c3 => ?_)
  · have hq := hq.1 c3
    refine lv_iconst (v := 0) hx hb dX12_cost_16 (by decide) ?_
    refine lv_istore_n (lv' := [(2, .int 0), (0, .ref (G.2.2 0)), (1, .int x1)]) hx hb dX12_cost_17 rfl hl (by decide) rfl (fun ls hl => ?_)
    refine lv_iconst (v := 0) hx hb dX12_cost_18 (by decide) ?_
    refine lv_istore_n (lv' := [(3, .int 0), (2, .int 0), (0, .ref (G.2.2 0)), (1, .int x1)]) hx hb dX12_cost_19 rfl hl (by decide) rfl (fun ls hl => ?_)
    exact k_X12_cost_20 C hK hW (lv_sub hl [2, 3, 1, 0] rfl) hq
  · have hq := hq.2 c3
    refine lv_iconst (v := (-1)) hx hb dX12_cost_14 (by decide) ?_
    exact k_iret rfl C hW dX12_cost_15 ⟨rfl, hq⟩
theorem c_X12_cost (l : Launch) (G : wG) (h : hp) (x1 : Int32) (Q : Int32 → Prop) (hq : w_X12_cost h x1 Q) : ctI l SM G yX12_cost wUX12_cost rmX12_cost h [.ref (G.2.2 0), .int x1] (fun r9 h9 => h9 = h ∧ Q r9) := by
  refine k_start (cc := cX12_cost) (maxL := 4) (rt := (some .int)) (own := RX12) (by decide +kernel) rfl rfl (Nat.le_of_ble_eq_true rfl) ?_
  intro p e s m below meth c ls C hK hW hl
  exact k_X12_cost_0 C hK hW hl hq
theorem k_X12_hide_0 {Q : Int32 → hp → Prop} {x1 : Int32} {h : hp} (C : kC p s m args meth c cX12_hide 2 (some .boolean) RX12 wUX12_hide) (hK : kK G s) {H : Heap} {locs : List Loc} {ls : Array Slot} (hW : kW SM G h (aS SM G) s H locs) (hl : lv_has ls 2 [(0, .ref (G.2.2 0)), (1, .int x1)]) (hq : w_X12_hide_0 Q x1 h) : W p l e rmX12_hide s m args below meth c H locs 0 0 (MQ below (va_Qi Q (kB SM G) (aS SM G)) args s 0 0 (aS SM G)) (F0 m 0 ls []) := by
  have hx := C.1
  have hb := C.2.1
  unfold w_X12_hide_0 at hq
  refine lv_aload_n hx hb dX12_hide_0 rfl (lv_at hl 0 rfl) ?_
  refine lv_iload_n hx hb dX12_hide_1 rfl (lv_at hl 1 rfl) ?_
  refine k_ci hW (va_runV (As := [.int x1]) (rest := []) (k_fix C) (c_X12_isRow l G h x1 _ hq) (cwV 1 C.2.2.2.2.2.1 (gU_V mw758 mw759 mw760 mw5 mw761) rfl rfl rfl (by decide +kernel) ⟨Nat.le_of_ble_eq_true rfl, Nat.le_of_ble_eq_true rfl⟩) (k_preV hK hW (shM_lt (rfl : shM 0 = 12) (by decide)) (ceM_12 (rfl : shM 0 = 12)) (q := (RX12, TX12, 73)) rfl) rfl rfl hl.1 rfl (lv_room (Nat.le_of_ble_eq_true rfl)) dX12_hide_2 ⟨Nat.le_refl 0, Nat.le_refl 0⟩) (fun r1 h2 H locs hq hW => ?_)
  rw [hq.1] at hW
  have hq := hq.2
  refine lv_if_ne (tgt := 10) hx hb dX12_hide_5 (by decide) (fun c3 => ?_) (fun c3 => ?_)
  · have hq := hq.1 c3
    refine lv_aload_n hx hb dX12_hide_10 rfl (lv_at hl 0 rfl) ?_
    refine lv_iload_n hx hb dX12_hide_11 rfl (lv_at hl 1 rfl) ?_
    refine pt12_61 C hK hW (rfl : shM 0 = 12) (List.mem_cons_of_mem _ mw306) (fun _ h9 => List.mem_cons_of_mem _ (inU_wsX120 _ h9)) dX12_hide_12 (fun h4 H locs eh4 hW => ?_)
    have hq := hq h4 eh4
    refine lv_aload_n hx hb dX12_hide_15 rfl (lv_at hl 0 rfl) ?_
    refine lv_iconst (v := 0) hx hb dX12_hide_16 (by decide) ?_
    refine pt12_62 C hK hW (rfl : shM 0 = 12) (List.mem_cons_of_mem _ mw618) (fun _ h9 => List.mem_cons_of_mem _ (inU_wsX120 _ h9)) dX12_hide_17 (fun h5 H locs eh5 hW => ?_)
    have hq := hq h5 eh5
    refine lv_aload_n hx hb dX12_hide_20 rfl (lv_at hl 0 rfl) ?_
    refine lv_iconst (v := 0) hx hb dX12_hide_21 (by decide) ?_
    refine pt12_57 C hK hW (rfl : shM 0 = 12) (List.mem_cons_of_mem _ mw617) (fun _ h9 => List.mem_cons_of_mem _ (inU_wsX120 _ h9)) dX12_hide_22 (fun h6 H locs eh6 hW => ?_)
    have hq := hq h6 eh6
    refine lv_iconst (v := 1) hx hb dX12_hide_25 (by decide) ?_
    exact k_zret rfl isZ_1.1 C hW dX12_hide_26 hq
  · have hq := hq.2 c3
    refine lv_iconst (v := 0) hx hb dX12_hide_8 (by decide) ?_
    exact k_zret rfl isZ_0.1 C hW dX12_hide_9 hq
theorem c_X12_hide (l : Launch) (G : wG) (h : hp) (x1 : Int32) (Q : Int32 → hp → Prop) (hq : w_X12_hide h x1 Q) : ctI l SM G yX12_hide wUX12_hide rmX12_hide h [.ref (G.2.2 0), .int x1] Q := by
  refine k_start (cc := cX12_hide) (maxL := 2) (rt := (some .boolean)) (own := RX12) (by decide +kernel) rfl rfl (Nat.le_of_ble_eq_true rfl) ?_
  intro p e s m below meth c ls C hK hW hl
  exact k_X12_hide_0 C hK hW hl hq
theorem k_X12_ask_88 {Q : Int64 → hp → Prop} {x1 : Int32} {x2 : Int64} {h : hp} (C : kC p s m args meth c cX12_ask 4 (some .long) RX12 wUX12_ask) (hK : kK G s) {H : Heap} {locs : List Loc} {ls : Array Slot} (hW : kW SM G h (aS SM G) s H locs) (hl : lv_has ls 4 [(0, .ref (G.2.2 0)), (1, .int x1), (2, .long x2)]) (hq : w_X12_ask_88 Q x1 x2 h) : W p l e rmX12_ask s m args below meth c H locs 0 0 (MQ below (va_Ql Q (kB SM G) (aS SM G)) args s 0 0 (aS SM G)) (F0 m 88 ls []) := by
  have hx := C.1
  have hb := C.2.1
  unfold w_X12_ask_88 at hq
  refine lv_aload_n hx hb dX12_ask_88 rfl (lv_at hl 0 rfl) ?_
  refine gt12_58 C hK hW (rfl : shM 0 = 12) (List.mem_cons_of_mem _ mw303) (fun _ h9 => List.mem_cons_of_mem _ (inU_wsX120 _ h9)) dX12_ask_89 ?_
  refine lv_aload_n hx hb dX12_ask_92 rfl (lv_at hl 0 rfl) ?_
  refine gt12_57 C hK hW (rfl : shM 0 = 12) (List.mem_cons_of_mem _ mw617) (fun _ h9 => List.mem_cons_of_mem _ (inU_wsX120 _ h9)) dX12_ask_93 ?_
  refine lv_iload_n hx hb dX12_ask_96 rfl (lv_at hl 1 rfl) ?_
  refine k_iast okM C hK hW (shM_lt (rfl : shM 38 = 14) (by decide)) (fun g9 => ceM_14 (rfl : shM 38 = 14) (rfl : lnM 38 = 20)) hq.1 dX12_ask_97 (fun H locs hW => ?_)
  have hq := hq.2
  obtain ⟨h12, eh12⟩ : ∃ z : hp, z = sI h 38 (ix (gI h 0 57)) x1 := ⟨_, rfl⟩
  rw [← eh12] at hW
  have hq := hq h12 eh12
  refine lv_aload_n hx hb dX12_ask_98 rfl (lv_at hl 0 rfl) ?_
  refine gt12_59 C hK hW (rfl : shM 0 = 12) (List.mem_cons_of_mem _ mw304) (fun _ h9 => List.mem_cons_of_mem _ (inU_wsX120 _ h9)) dX12_ask_99 ?_
  refine lv_aload_n hx hb dX12_ask_102 rfl (lv_at hl 0 rfl) ?_
  refine gt12_57 C hK hW (rfl : shM 0 = 12) (List.mem_cons_of_mem _ mw617) (fun _ h9 => List.mem_cons_of_mem _ (inU_wsX120 _ h9)) dX12_ask_103 ?_
  refine lv_lload_n hx hb dX12_ask_106 rfl (lv_at hl 2 rfl) ?_
  refine k_last okM C hK hW (shM_lt (rfl : shM 39 = 15) (by decide)) (fun g9 => ceM_15 (rfl : shM 39 = 15) (rfl : lnM 39 = 20)) hq.1 dX12_ask_107 (fun H locs hW => ?_)
  have hq := hq.2
  obtain ⟨h13, eh13⟩ : ∃ z : hp, z = sL h12 39 (ix (gI h12 0 57)) x2 := ⟨_, rfl⟩
  rw [← eh13] at hW
  have hq := hq h13 eh13
  refine lv_aload_n hx hb dX12_ask_108 rfl (lv_at hl 0 rfl) ?_
  refine lv_dup hx hb dX12_ask_109 rfl ?_
  refine gt12_57 C hK hW (rfl : shM 0 = 12) (List.mem_cons_of_mem _ mw617) (fun _ h9 => List.mem_cons_of_mem _ (inU_wsX120 _ h9)) dX12_ask_110 ?_
  refine lv_iconst (v := 1) hx hb dX12_ask_113 (by decide) ?_
  refine lv_iadd hx hb dX12_ask_114 ?_
  refine pt12_57 C hK hW (rfl : shM 0 = 12) (List.mem_cons_of_mem _ mw617) (fun _ h9 => List.mem_cons_of_mem _ (inU_wsX120 _ h9)) dX12_ask_115 (fun h14 H locs eh14 hW => ?_)
  have hq := hq h14 eh14
  refine lv_lload_n hx hb dX12_ask_118 rfl (lv_at hl 2 rfl) ?_
  exact k_lret rfl C hW dX12_ask_119 hq
theorem k_X12_ask_0 {Q : Int64 → hp → Prop} {x1 : Int32} {h : hp} (C : kC p s m args meth c cX12_ask 4 (some .long) RX12 wUX12_ask) (hK : kK G s) {H : Heap} {locs : List Loc} {ls : Array Slot} (hW : kW SM G h (aS SM G) s H locs) (hl : lv_has ls 4 [(0, .ref (G.2.2 0)), (1, .int x1)]) (hq : w_X12_ask_0 Q x1 h) : W p l e rmX12_ask s m args below meth c H locs 0 0 (MQ below (va_Ql Q (kB SM G) (aS SM G)) args s 0 0 (aS SM G)) (F0 m 0 ls []) := by
  have hx := C.1
  have hb := C.2.1
  unfold w_X12_ask_0 at hq
  refine lv_aload_n hx hb dX12_ask_0 rfl (lv_at hl 0 rfl) ?_
  refine gt12_61 C hK hW (rfl : shM 0 = 12) (List.mem_cons_of_mem _ mw306) (fun _ h9 => List.mem_cons_of_mem _ (inU_wsX120 _ h9)) dX12_ask_1 ?_
  refine lv_if_lt (tgt := 30) hx hb dX12_ask_4 (by decide) (fun c1 => ?_) (fun c1 => ?_)
  · have hq := hq.1 c1
    refine lv_ldc2 (v := (-2000000000000000000)) hx hb C.2.2.2.2.1 (C.2.2.2.2.2.1 _ (List.mem_cons_of_mem _ mw792)) dX12_ask_30 ?_
    exact k_lret rfl C hW dX12_ask_33 hq
  · have hq := hq.2 c1
    refine lv_aload_n hx hb dX12_ask_7 rfl (lv_at hl 0 rfl) ?_
    refine gt12_57 C hK hW (rfl : shM 0 = 12) (List.mem_cons_of_mem _ mw617) (fun _ h9 => List.mem_cons_of_mem _ (inU_wsX120 _ h9)) dX12_ask_8 ?_
    refine lv_bipush (v := 20) hx hb dX12_ask_11 (by decide) ?_
    refine lv_icmp_eq (tgt := 30) hx hb dX12_ask_13 (by decide) (fun c2 => ?_) (fun c2 => ?_)
    · have hq := hq.1 c2
      refine lv_ldc2 (v := (-2000000000000000000)) hx hb C.2.2.2.2.1 (C.2.2.2.2.2.1 _ (List.mem_cons_of_mem _ mw792)) dX12_ask_30 ?_
      exact k_lret rfl C hW dX12_ask_33 hq
    · have hq := hq.2 c2
      refine lv_iload_n hx hb dX12_ask_16 rfl (lv_at hl 1 rfl) ?_
      refine lv_i2l (v := x1.toInt64) hx hb dX12_ask_17 rfl ?_
      refine lv_ldc2 (v := (-99)) hx hb C.2.2.2.2.1 (C.2.2.2.2.2.1 _ (List.mem_cons_of_mem _ mw946)) dX12_ask_18 ?_
      refine lv_ldc2 (v := 99) hx hb C.2.2.2.2.1 (C.2.2.2.2.2.1 _ (List.mem_cons_of_mem _ mw947)) dX12_ask_21 ?_
      refine k_ci hW (va_runS (As := [.long (x1.toInt64), .long (-99), .long 99]) (rest := []) (k_fix C) (c_X12_in l G h (x1.toInt64) (-99) 99 _ hq) (va_cwS 3 C.2.2.2.2.2.1 (gU_S mw762 mw763 mw5 mw764) rfl rfl rfl (by decide +kernel) ⟨Nat.le_of_ble_eq_true rfl, Nat.le_of_ble_eq_true rfl⟩) (k_preS hK hW) rfl rfl hl.1 rfl (lv_room (Nat.le_of_ble_eq_true rfl)) dX12_ask_24 ⟨Nat.le_refl 0, Nat.le_refl 0⟩) (fun r3 h4 H locs hq hW => ?_)
      rw [hq.1] at hW
      have hq := hq.2
      refine lv_if_ne (tgt := 34) hx hb dX12_ask_27 (by decide) (fun c5 => ?_) (fun c5 => ?_)
      · have hq := hq.1 c5
        refine lv_aload_n hx hb dX12_ask_34 rfl (lv_at hl 0 rfl) ?_
        refine lv_dup hx hb dX12_ask_35 rfl ?_
        refine gt12_62 C hK hW (rfl : shM 0 = 12) (List.mem_cons_of_mem _ mw618) (fun _ h9 => List.mem_cons_of_mem _ (inU_wsX120 _ h9)) dX12_ask_36 ?_
        refine lv_iconst (v := 1) hx hb dX12_ask_39 (by decide) ?_
        refine lv_iadd hx hb dX12_ask_40 ?_
        refine pt12_62 C hK hW (rfl : shM 0 = 12) (List.mem_cons_of_mem _ mw618) (fun _ h9 => List.mem_cons_of_mem _ (inU_wsX120 _ h9)) dX12_ask_41 (fun h6 H locs eh6 hW => ?_)
        have hq := hq h6 eh6
        refine lv_aload_n hx hb dX12_ask_44 rfl (lv_at hl 0 rfl) ?_
        refine lv_aload_n hx hb dX12_ask_45 rfl (lv_at hl 0 rfl) ?_
        refine gt12_61 C hK hW (rfl : shM 0 = 12) (List.mem_cons_of_mem _ mw306) (fun _ h9 => List.mem_cons_of_mem _ (inU_wsX120 _ h9)) dX12_ask_46 ?_
        refine lv_iload_n hx hb dX12_ask_49 rfl (lv_at hl 1 rfl) ?_
        refine lv_i2l (v := x1.toInt64) hx hb dX12_ask_50 rfl ?_
        refine k_cl hW (va_runV (As := [.int (gI h6 0 61), .long (x1.toInt64)]) (rest := []) (k_fix C) (c_X12_comesBy l G h6 (gI h6 0 61) (x1.toInt64) _ hq) (cwV 2 C.2.2.2.2.2.1 (gU_V mw793 mw794 mw795 mw5 mw796) rfl rfl rfl (by decide +kernel) ⟨Nat.le_of_ble_eq_true rfl, Nat.le_of_ble_eq_true rfl⟩) (k_preV hK hW (shM_lt (rfl : shM 0 = 12) (by decide)) (ceM_12 (rfl : shM 0 = 12)) (q := (RX12, TX12, 73)) rfl) rfl rfl hl.1 rfl (lv_room (Nat.le_of_ble_eq_true rfl)) dX12_ask_51 ⟨Nat.le_refl 0, Nat.le_refl 0⟩) (fun r7 h8 H locs hq hW => ?_)
        rw [hq.1] at hW
        have hq := hq.2
        refine lv_lstore_n (lv' := [(2, .long r7), (0, .ref (G.2.2 0)), (1, .int x1)]) hx hb dX12_ask_54 rfl hl (by decide) rfl (fun ls hl => ?_)
        refine lv_aload_n hx hb dX12_ask_55 rfl (lv_at hl 1 rfl) ?_
        refine gt12_34 C hK hW (rfl : shM 0 = 12) (List.mem_cons_of_mem _ mw284) (fun _ h9 => List.mem_cons_of_mem _ (inU_wsX120 _ h9)) dX12_ask_56 ?_
        refine lv_aload_n hx hb dX12_ask_59 rfl (lv_at hl 1 rfl) ?_
        refine gt12_18 C hK hW (rfl : shM 0 = 12) (List.mem_cons_of_mem _ mw610) (fun _ h9 => List.mem_cons_of_mem _ (inU_wsX120 _ h9)) dX12_ask_60 ?_
        refine k_iald C hK hW (shM_lt (rfl : shM 21 = 14) (by decide)) (ceM_14 (rfl : shM 21 = 14) (rfl : lnM 21 = 2)) hq.1 dX12_ask_63 ?_
        have hq := hq.2
        refine lv_if_le (tgt := 88) hx hb dX12_ask_64 (by decide) (fun c9 => ?_) (fun c9 => ?_)
        · have hq := hq.1 c9
          exact k_X12_ask_88 C hK hW (lv_sub hl [1, 2, 0] rfl) hq
        · have hq := hq.2 c9
          refine lv_aload_n hx hb dX12_ask_67 rfl (lv_at hl 1 rfl) ?_
          refine gt12_62 C hK hW (rfl : shM 0 = 12) (List.mem_cons_of_mem _ mw618) (fun _ h9 => List.mem_cons_of_mem _ (inU_wsX120 _ h9)) dX12_ask_68 ?_
          refine lv_aload_n hx hb dX12_ask_71 rfl (lv_at hl 1 rfl) ?_
          refine gt12_34 C hK hW (rfl : shM 0 = 12) (List.mem_cons_of_mem _ mw284) (fun _ h9 => List.mem_cons_of_mem _ (inU_wsX120 _ h9)) dX12_ask_72 ?_
          refine lv_aload_n hx hb dX12_ask_75 rfl (lv_at hl 1 rfl) ?_
          refine gt12_18 C hK hW (rfl : shM 0 = 12) (List.mem_cons_of_mem _ mw610) (fun _ h9 => List.mem_cons_of_mem _ (inU_wsX120 _ h9)) dX12_ask_76 ?_
          refine k_iald C hK hW (shM_lt (rfl : shM 21 = 14) (by decide)) (ceM_14 (rfl : shM 21 = 14) (rfl : lnM 21 = 2)) hq.1 dX12_ask_79 ?_
          have hq := hq.2
          refine k_irem hx hb dX12_ask_80 hq.1 ?_
          have hq := hq.2
          refine lv_if_ne (tgt := 88) hx hb dX12_ask_81 (by decide) (fun c10 => ?_) (fun c10 => ?_)
          · have hq := hq.1 c10
            exact k_X12_ask_88 C hK hW (lv_sub hl [1, 2, 0] rfl) hq
          · have hq := hq.2 c10
            refine lv_lload_n hx hb dX12_ask_84 rfl (lv_at hl 0 rfl) ?_
            refine lv_lconst (v := 1) hx hb dX12_ask_85 (by decide) ?_
            refine lv_ladd hx hb dX12_ask_86 ?_
            refine lv_topl (fun x2_11 ex2_11 => ?_)
            have hq := hq x2_11 ex2_11
            refine lv_lstore_n (lv' := [(2, .long x2_11), (0, .ref (G.2.2 0)), (1, .int x1)]) hx hb dX12_ask_87 rfl hl (by decide) rfl (fun ls hl => ?_)
            exact k_X12_ask_88 C hK hW (lv_sub hl [1, 2, 0] rfl) hq
      · have hq := hq.2 c5
        refine lv_ldc2 (v := (-2000000000000000000)) hx hb C.2.2.2.2.1 (C.2.2.2.2.2.1 _ (List.mem_cons_of_mem _ mw792)) dX12_ask_30 ?_
        exact k_lret rfl C hW dX12_ask_33 hq
theorem c_X12_ask (l : Launch) (G : wG) (h : hp) (x1 : Int32) (Q : Int64 → hp → Prop) (hq : w_X12_ask h x1 Q) : ctL l SM G yX12_ask wUX12_ask rmX12_ask h [.ref (G.2.2 0), .int x1] Q := by
  refine k_start (cc := cX12_ask) (maxL := 4) (rt := (some .long)) (own := RX12) (by decide +kernel) rfl rfl (Nat.le_of_ble_eq_true rfl) ?_
  intro p e s m below meth c ls C hK hW hl
  exact k_X12_ask_0 C hK hW hl hq
theorem k_X12_asksAfter_b32 {Q : Int32 → hp → Prop} {X32 : Int32 × hp → Prop} {x1 : Int32} {x2 : Int64} {x4 : Int32} (C : kC p s m args meth c cX12_asksAfter 6 (some .int) RX12 wUX12_asksAfter) (hK : kK G s) (hX32 : ∀ (x5 : Int32) (h : hp) (H : Heap) (locs : List Loc) (ls : Array Slot), kW SM G h (aS SM G) s H locs → lv_has ls 6 [(0, .ref (G.2.2 0)), (1, .int x1), (2, .long x2), (4, .int x4), (5, .int x5)] → X32 (x5, h) → W p l e rmX12_asksAfter s m args below meth c H locs 0 0 (MQ below (va_Qi Q (kB SM G) (aS SM G)) args s 0 0 (aS SM G)) (F0 m 32 ls [])) {x5 : Int32} {h : hp} {H : Heap} {locs : List Loc} {ls : Array Slot} (hW : kW SM G h (aS SM G) s H locs) (hl : lv_has ls 6 [(0, .ref (G.2.2 0)), (1, .int x1), (2, .long x2), (4, .int x4), (5, .int x5)]) (hq : w_X12_asksAfter_b32 Q x1 x2 x4 X32 x5 h) : W p l e rmX12_asksAfter s m args below meth c H locs 0 0 (MQ below (va_Qi Q (kB SM G) (aS SM G)) args s 0 0 (aS SM G)) (F0 m 32 ls []) := by
  have hx := C.1
  have hb := C.2.1
  unfold w_X12_asksAfter_b32 at hq
  refine lv_iload hx hb dX12_asksAfter_32 (lv_at hl 4 rfl) ?_
  refine lv_iconst (v := 3) hx hb dX12_asksAfter_34 (by decide) ?_
  refine lv_icmp_ge (tgt := 52) hx hb dX12_asksAfter_35 (by decide) (fun c2 => ?_) (fun c2 => ?_)
  · have hq := hq.1 c2
    refine lv_aload_n hx hb dX12_asksAfter_52 rfl (lv_at hl 0 rfl) ?_
    refine gt12_48 C hK hW (rfl : shM 0 = 12) (List.mem_cons_of_mem _ mw296) (fun _ h9 => List.mem_cons_of_mem _ (inU_wsX120 _ h9)) dX12_asksAfter_53 ?_
    refine lv_iconst (v := 3) hx hb dX12_asksAfter_56 (by decide) ?_
    refine lv_iload_n hx hb dX12_asksAfter_57 rfl (lv_at hl 1 rfl) ?_
    refine k_iast okM C hK hW (shM_lt (rfl : shM 32 = 14) (by decide)) (fun g9 => ceM_14 (rfl : shM 32 = 14) (rfl : lnM 32 = 6)) hq.1 dX12_asksAfter_58 (fun H locs hW => ?_)
    have hq := hq.2
    obtain ⟨h3, eh3⟩ : ∃ z : hp, z = sI h 32 (ix 3) x1 := ⟨_, rfl⟩
    rw [← eh3] at hW
    have hq := hq h3 eh3
    refine lv_aload_n hx hb dX12_asksAfter_59 rfl (lv_at hl 0 rfl) ?_
    refine gt12_48 C hK hW (rfl : shM 0 = 12) (List.mem_cons_of_mem _ mw296) (fun _ h9 => List.mem_cons_of_mem _ (inU_wsX120 _ h9)) dX12_asksAfter_60 ?_
    refine lv_iconst (v := 4) hx hb dX12_asksAfter_63 (by decide) ?_
    refine lv_lload_n hx hb dX12_asksAfter_64 rfl (lv_at hl 2 rfl) ?_
    refine lv_ldc2 (v := 1000) hx hb C.2.2.2.2.1 (C.2.2.2.2.2.1 _ (List.mem_cons_of_mem _ mw1161)) dX12_asksAfter_65 ?_
    refine k_lrem hx hb dX12_asksAfter_68 (by decide) ?_
    refine lv_l2i (v := (lrem x2 1000).toInt32) hx hb dX12_asksAfter_69 rfl ?_
    refine k_iast okM C hK hW (shM_lt (rfl : shM 32 = 14) (by decide)) (fun g9 => ceM_14 (rfl : shM 32 = 14) (rfl : lnM 32 = 6)) hq.1 dX12_asksAfter_70 (fun H locs hW => ?_)
    have hq := hq.2
    obtain ⟨h4, eh4⟩ : ∃ z : hp, z = sI h3 32 (ix 4) ((lrem x2 1000).toInt32) := ⟨_, rfl⟩
    rw [← eh4] at hW
    have hq := hq h4 eh4
    refine lv_aload_n hx hb dX12_asksAfter_71 rfl (lv_at hl 0 rfl) ?_
    refine gt12_48 C hK hW (rfl : shM 0 = 12) (List.mem_cons_of_mem _ mw296) (fun _ h9 => List.mem_cons_of_mem _ (inU_wsX120 _ h9)) dX12_asksAfter_72 ?_
    refine lv_iconst (v := 5) hx hb dX12_asksAfter_75 (by decide) ?_
    refine lv_iload hx hb dX12_asksAfter_76 (lv_at hl 3 rfl) ?_
    refine k_iast okM C hK hW (shM_lt (rfl : shM 32 = 14) (by decide)) (fun g9 => ceM_14 (rfl : shM 32 = 14) (rfl : lnM 32 = 6)) hq.1 dX12_asksAfter_78 (fun H locs hW => ?_)
    have hq := hq.2
    obtain ⟨h5, eh5⟩ : ∃ z : hp, z = sI h4 32 (ix 5) x4 := ⟨_, rfl⟩
    rw [← eh5] at hW
    have hq := hq h5 eh5
    refine lv_aload_n hx hb dX12_asksAfter_79 rfl (lv_at hl 0 rfl) ?_
    refine lv_iconst (v := 2) hx hb dX12_asksAfter_80 (by decide) ?_
    refine lv_aload_n hx hb dX12_asksAfter_81 rfl (lv_at hl 0 rfl) ?_
    refine gt12_18 C hK hW (rfl : shM 0 = 12) (List.mem_cons_of_mem _ mw610) (fun _ h9 => List.mem_cons_of_mem _ (inU_wsX120 _ h9)) dX12_asksAfter_82 ?_
    refine lv_imul hx hb dX12_asksAfter_85 ?_
    refine k_ci hW (va_runV (As := [.int (2 * (gI h5 0 18))]) (rest := []) (k_fix C) (c_X12_tellsBy l G h5 (2 * (gI h5 0 18)) _ hq) (cwV 1 C.2.2.2.2.2.1 (gU_V mw707 mw708 mw709 mw5 mw710) rfl rfl rfl (by decide +kernel) ⟨Nat.le_of_ble_eq_true rfl, Nat.le_of_ble_eq_true rfl⟩) (k_preV hK hW (shM_lt (rfl : shM 0 = 12) (by decide)) (ceM_12 (rfl : shM 0 = 12)) (q := (RX12, TX12, 73)) rfl) rfl rfl hl.1 rfl (lv_room (Nat.le_of_ble_eq_true rfl)) dX12_asksAfter_86 ⟨Nat.le_refl 0, Nat.le_refl 0⟩) (fun r7 h6 H locs hq hW => ?_)
    exact k_iret rfl C hW dX12_asksAfter_89 hq
  · have hq := hq.2 c2
    refine lv_aload_n hx hb dX12_asksAfter_38 rfl (lv_at hl 0 rfl) ?_
    refine gt12_48 C hK hW (rfl : shM 0 = 12) (List.mem_cons_of_mem _ mw296) (fun _ h9 => List.mem_cons_of_mem _ (inU_wsX120 _ h9)) dX12_asksAfter_39 ?_
    refine lv_iload hx hb dX12_asksAfter_42 (lv_at hl 4 rfl) ?_
    refine lv_iconst (v := 0) hx hb dX12_asksAfter_44 (by decide) ?_
    refine k_iast okM C hK hW (shM_lt (rfl : shM 32 = 14) (by decide)) (fun g9 => ceM_14 (rfl : shM 32 = 14) (rfl : lnM 32 = 6)) hq.1 dX12_asksAfter_45 (fun H locs hW => ?_)
    have hq := hq.2
    obtain ⟨h8, eh8⟩ : ∃ z : hp, z = sI h 32 (ix x5) 0 := ⟨_, rfl⟩
    rw [← eh8] at hW
    have hq := hq h8 eh8
    obtain ⟨x5_9, ex5_9⟩ : ∃ y : Int32, y = x5 + 1 := ⟨_, rfl⟩
    have hq := hq x5_9 ex5_9
    refine lv_iinc (v := x5_9) (lv' := [(5, .int x5_9), (0, .ref (G.2.2 0)), (1, .int x1), (2, .long x2), (4, .int x4)]) hx hb dX12_asksAfter_46 hl (k := 4) rfl (by rw [ex5_9]; rfl) (by decide) rfl (fun ls hl => ?_)
    refine lv_goto (tgt := 32) hx hb dX12_asksAfter_49 (by decide) ?_
    exact hX32 _ _ _ _ _ hW (lv_sub hl [1, 2, 3, 4, 0] rfl) hq
theorem k_X12_asksAfter_32 {Q : Int32 → hp → Prop} {x1 : Int32} {x2 : Int64} {x4 : Int32} (C : kC p s m args meth c cX12_asksAfter 6 (some .int) RX12 wUX12_asksAfter) (hK : kK G s) {x5 : Int32} {h : hp} {H : Heap} {locs : List Loc} {ls : Array Slot} (hW : kW SM G h (aS SM G) s H locs) (hl : lv_has ls 6 [(0, .ref (G.2.2 0)), (1, .int x1), (2, .long x2), (4, .int x4), (5, .int x5)]) (hq : w_X12_asksAfter_32 Q x1 x2 x4 x5 h) : W p l e rmX12_asksAfter s m args below meth c H locs 0 0 (MQ below (va_Qi Q (kB SM G) (aS SM G)) args s 0 0 (aS SM G)) (F0 m 32 ls []) := by
  have key := hq (fun (q : Int32 × hp) => ∀ (H : Heap) (locs : List Loc) (ls : Array Slot), kW SM G q.2 (aS SM G) s H locs → lv_has ls 6 [(0, .ref (G.2.2 0)), (1, .int x1), (2, .long x2), (4, .int x4), (5, .int q.1)] → W p l e rmX12_asksAfter s m args below meth c H locs 0 0 (MQ below (va_Qi Q (kB SM G) (aS SM G)) args s 0 0 (aS SM G)) (F0 m 32 ls []))
    (fun q hq H locs ls hW hl => k_X12_asksAfter_b32 C hK (fun x5 h H locs ls hW hl hI => hI H locs ls hW hl) hW hl hq)
  exact key _ _ _ hW hl
theorem k_X12_asksAfter_0 {Q : Int32 → hp → Prop} {x1 : Int32} {x2 : Int64} {x4 : Int32} {h : hp} (C : kC p s m args meth c cX12_asksAfter 6 (some .int) RX12 wUX12_asksAfter) (hK : kK G s) {H : Heap} {locs : List Loc} {ls : Array Slot} (hW : kW SM G h (aS SM G) s H locs) (hl : lv_has ls 6 [(0, .ref (G.2.2 0)), (1, .int x1), (2, .long x2), (4, .int x4)]) (hq : w_X12_asksAfter_0 Q x1 x2 x4 h) : W p l e rmX12_asksAfter s m args below meth c H locs 0 0 (MQ below (va_Qi Q (kB SM G) (aS SM G)) args s 0 0 (aS SM G)) (F0 m 0 ls []) := by
  have hx := C.1
  have hb := C.2.1
  unfold w_X12_asksAfter_0 at hq
  refine lv_aload_n hx hb dX12_asksAfter_0 rfl (lv_at hl 0 rfl) ?_
  refine gt12_35 C hK hW (rfl : shM 0 = 12) (List.mem_cons_of_mem _ mw285) (fun _ h9 => List.mem_cons_of_mem _ (inU_wsX120 _ h9)) dX12_asksAfter_1 ?_
  refine lv_iconst (v := 2) hx hb dX12_asksAfter_4 (by decide) ?_
  refine lv_aload_n hx hb dX12_asksAfter_5 rfl (lv_at hl 0 rfl) ?_
  refine gt12_18 C hK hW (rfl : shM 0 = 12) (List.mem_cons_of_mem _ mw610) (fun _ h9 => List.mem_cons_of_mem _ (inU_wsX120 _ h9)) dX12_asksAfter_6 ?_
  refine lv_imul hx hb dX12_asksAfter_9 ?_
  refine k_iald C hK hW (shM_lt (rfl : shM 22 = 14) (by decide)) (ceM_14 (rfl : shM 22 = 14) (rfl : lnM 22 = 4)) hq.1 dX12_asksAfter_10 ?_
  have hq := hq.2
  refine lv_aload_n hx hb dX12_asksAfter_11 rfl (lv_at hl 0 rfl) ?_
  refine gt12_36 C hK hW (rfl : shM 0 = 12) (List.mem_cons_of_mem _ mw286) (fun _ h9 => List.mem_cons_of_mem _ (inU_wsX120 _ h9)) dX12_asksAfter_12 ?_
  refine lv_iconst (v := 2) hx hb dX12_asksAfter_15 (by decide) ?_
  refine lv_aload_n hx hb dX12_asksAfter_16 rfl (lv_at hl 0 rfl) ?_
  refine gt12_18 C hK hW (rfl : shM 0 = 12) (List.mem_cons_of_mem _ mw610) (fun _ h9 => List.mem_cons_of_mem _ (inU_wsX120 _ h9)) dX12_asksAfter_17 ?_
  refine lv_imul hx hb dX12_asksAfter_20 ?_
  refine k_iald C hK hW (shM_lt (rfl : shM 23 = 14) (by decide)) (ceM_14 (rfl : shM 23 = 14) (rfl : lnM 23 = 4)) hq.1 dX12_asksAfter_21 ?_
  have hq := hq.2
  refine lv_icmp_ne (tgt := 29) hx hb dX12_asksAfter_22 (by decide) (fun c1 => ?_) (fun c1 => ?_)
  · have hq := hq.1 c1
    refine lv_iconst (v := 0) hx hb dX12_asksAfter_29 (by decide) ?_
    refine lv_istore (lv' := [(5, .int 0), (0, .ref (G.2.2 0)), (1, .int x1), (2, .long x2), (4, .int x4)]) hx hb dX12_asksAfter_30 hl (by decide) rfl (fun ls hl => ?_)
    exact k_X12_asksAfter_32 C hK hW (lv_sub hl [1, 2, 3, 4, 0] rfl) hq
  · have hq := hq.2 c1
    refine lv_iload_n hx hb dX12_asksAfter_25 rfl (lv_at hl 1 rfl) ?_
    refine lv_iconst (v := 1) hx hb dX12_asksAfter_26 (by decide) ?_
    refine lv_iadd hx hb dX12_asksAfter_27 ?_
    exact k_iret rfl C hW dX12_asksAfter_28 hq
theorem c_X12_asksAfter (l : Launch) (G : wG) (h : hp) (x1 : Int32) (x2 : Int64) (x4 : Int32) (Q : Int32 → hp → Prop) (hq : w_X12_asksAfter h x1 x2 x4 Q) : ctI l SM G yX12_asksAfter wUX12_asksAfter rmX12_asksAfter h [.ref (G.2.2 0), .int x1, .long x2, .int x4] Q := by
  refine k_start (cc := cX12_asksAfter) (maxL := 6) (rt := (some .int)) (own := RX12) (by decide +kernel) rfl rfl (Nat.le_of_ble_eq_true rfl) ?_
  intro p e s m below meth c ls C hK hW hl
  exact k_X12_asksAfter_0 C hK hW hl hq
theorem k_X12_asks_0 {Q : Int32 → hp → Prop} {h : hp} (C : kC p s m args meth c cX12_asks 1 (some .int) RX12 wUX12_asks) (hK : kK G s) {H : Heap} {locs : List Loc} {ls : Array Slot} (hW : kW SM G h (aS SM G) s H locs) (hl : lv_has ls 1 [(0, .ref (G.2.2 0))]) (hq : w_X12_asks_0 Q h) : W p l e rmX12_asks s m args below meth c H locs 0 0 (MQ below (va_Qi Q (kB SM G) (aS SM G)) args s 0 0 (aS SM G)) (F0 m 0 ls []) := by
  have hx := C.1
  have hb := C.2.1
  unfold w_X12_asks_0 at hq
  refine lv_aload_n hx hb dX12_asks_0 rfl (lv_at hl 0 rfl) ?_
  refine gt12_57 C hK hW (rfl : shM 0 = 12) (List.mem_cons_of_mem _ mw617) (fun _ h9 => List.mem_cons_of_mem _ (inU_wsX120 _ h9)) dX12_asks_1 ?_
  refine lv_if_ne (tgt := 17) hx hb dX12_asks_4 (by decide) (fun c1 => ?_) (fun c1 => ?_)
  · have hq := hq.1 c1
    refine lv_aload_n hx hb dX12_asks_17 rfl (lv_at hl 0 rfl) ?_
    refine lv_aload_n hx hb dX12_asks_18 rfl (lv_at hl 0 rfl) ?_
    refine gt12_57 C hK hW (rfl : shM 0 = 12) (List.mem_cons_of_mem _ mw617) (fun _ h9 => List.mem_cons_of_mem _ (inU_wsX120 _ h9)) dX12_asks_19 ?_
    refine lv_aload_n hx hb dX12_asks_22 rfl (lv_at hl 0 rfl) ?_
    refine gt12_59 C hK hW (rfl : shM 0 = 12) (List.mem_cons_of_mem _ mw304) (fun _ h9 => List.mem_cons_of_mem _ (inU_wsX120 _ h9)) dX12_asks_23 ?_
    refine lv_aload_n hx hb dX12_asks_26 rfl (lv_at hl 0 rfl) ?_
    refine gt12_57 C hK hW (rfl : shM 0 = 12) (List.mem_cons_of_mem _ mw617) (fun _ h9 => List.mem_cons_of_mem _ (inU_wsX120 _ h9)) dX12_asks_27 ?_
    refine lv_iconst (v := 1) hx hb dX12_asks_30 (by decide) ?_
    refine lv_isub hx hb dX12_asks_31 ?_
    refine k_lald C hK hW (shM_lt (rfl : shM 39 = 15) (by decide)) (ceM_15 (rfl : shM 39 = 15) (rfl : lnM 39 = 20)) hq.1 dX12_asks_32 ?_
    have hq := hq.2
    refine lv_aload_n hx hb dX12_asks_33 rfl (lv_at hl 0 rfl) ?_
    refine gt12_58 C hK hW (rfl : shM 0 = 12) (List.mem_cons_of_mem _ mw303) (fun _ h9 => List.mem_cons_of_mem _ (inU_wsX120 _ h9)) dX12_asks_34 ?_
    refine lv_aload_n hx hb dX12_asks_37 rfl (lv_at hl 0 rfl) ?_
    refine gt12_57 C hK hW (rfl : shM 0 = 12) (List.mem_cons_of_mem _ mw617) (fun _ h9 => List.mem_cons_of_mem _ (inU_wsX120 _ h9)) dX12_asks_38 ?_
    refine lv_iconst (v := 1) hx hb dX12_asks_41 (by decide) ?_
    refine lv_isub hx hb dX12_asks_42 ?_
    refine k_iald C hK hW (shM_lt (rfl : shM 38 = 14) (by decide)) (ceM_14 (rfl : shM 38 = 14) (rfl : lnM 38 = 20)) hq.1 dX12_asks_43 ?_
    have hq := hq.2
    refine k_ci hW (va_runV (As := [.int (gI h 0 57), .long (gL h 39 (ix ((gI h 0 57) - 1))), .int (gI h 38 (ix ((gI h 0 57) - 1)))]) (rest := []) (k_fix C) (c_X12_asksAfter l G h (gI h 0 57) (gL h 39 (ix ((gI h 0 57) - 1))) (gI h 38 (ix ((gI h 0 57) - 1))) _ hq) (cwV 3 C.2.2.2.2.2.1 (gU_V mw1157 mw1158 mw1159 mw5 mw1160) rfl rfl rfl (by decide +kernel) ⟨Nat.le_of_ble_eq_true rfl, Nat.le_of_ble_eq_true rfl⟩) (k_preV hK hW (shM_lt (rfl : shM 0 = 12) (by decide)) (ceM_12 (rfl : shM 0 = 12)) (q := (RX12, TX12, 73)) rfl) rfl rfl hl.1 rfl (lv_room (Nat.le_of_ble_eq_true rfl)) dX12_asks_44 ⟨Nat.le_refl 0, Nat.le_refl 0⟩) (fun r3 h2 H locs hq hW => ?_)
    exact k_iret rfl C hW dX12_asks_47 hq
  · have hq := hq.2 c1
    refine lv_aload_n hx hb dX12_asks_7 rfl (lv_at hl 0 rfl) ?_
    refine lv_iconst (v := 0) hx hb dX12_asks_8 (by decide) ?_
    refine lv_lconst (v := 0) hx hb dX12_asks_9 (by decide) ?_
    refine lv_iconst (v := 0) hx hb dX12_asks_10 (by decide) ?_
    refine k_ci hW (va_runV (As := [.int 0, .long 0, .int 0]) (rest := []) (k_fix C) (c_X12_asksAfter l G h 0 0 0 _ hq) (cwV 3 C.2.2.2.2.2.1 (gU_V mw1157 mw1158 mw1159 mw5 mw1160) rfl rfl rfl (by decide +kernel) ⟨Nat.le_of_ble_eq_true rfl, Nat.le_of_ble_eq_true rfl⟩) (k_preV hK hW (shM_lt (rfl : shM 0 = 12) (by decide)) (ceM_12 (rfl : shM 0 = 12)) (q := (RX12, TX12, 73)) rfl) rfl rfl hl.1 rfl (lv_room (Nat.le_of_ble_eq_true rfl)) dX12_asks_11 ⟨Nat.le_refl 0, Nat.le_refl 0⟩) (fun r5 h4 H locs hq hW => ?_)
    refine lv_goto (tgt := 47) hx hb dX12_asks_14 (by decide) ?_
    exact k_iret rfl C hW dX12_asks_47 hq
theorem c_X12_asks (l : Launch) (G : wG) (h : hp) (Q : Int32 → hp → Prop) (hq : w_X12_asks h Q) : ctI l SM G yX12_asks wUX12_asks rmX12_asks h [.ref (G.2.2 0)] Q := by
  refine k_start (cc := cX12_asks) (maxL := 1) (rt := (some .int)) (own := RX12) (by decide +kernel) rfl rfl (Nat.le_of_ble_eq_true rfl) ?_
  intro p e s m below meth c ls C hK hW hl
  exact k_X12_asks_0 C hK hW hl hq
end LINKS
