section LINKS
variable {p : Program} {l : Launch} {e : Env} {s : State} {m : MethodId} {args : Array Value} {below : List Frame} {meth : Method} {c : Code} {G : wG}
theorem k_X12_alike_b28 {Q : Int32 → Prop} {X28 : Int32 × Int32 → Prop} {x1 : Int32} {x2 : Int32} {h : hp} (C : kC p s m args meth c cX12_alike 5 (some .int) RX12 wUX12_alike) (hK : kK G s) (hX28 : ∀ (x3 : Int32) (x4 : Int32) (H : Heap) (locs : List Loc) (ls : Array Slot), kW SM G h (aS SM G) s H locs → lv_has ls 5 [(0, .ref (G.2.2 0)), (1, .int x1), (2, .int x2), (3, .int x3), (4, .int x4)] → X28 (x3, x4) → W p l e rmX12_alike s m args below meth c H locs 0 0 (MQ below (va_Qi (fun r9 h9 => h9 = h ∧ Q r9) (kB SM G) (aS SM G)) args s 0 0 (aS SM G)) (F0 m 28 ls [])) {x3 : Int32} {x4 : Int32} {H : Heap} {locs : List Loc} {ls : Array Slot} (hW : kW SM G h (aS SM G) s H locs) (hl : lv_has ls 5 [(0, .ref (G.2.2 0)), (1, .int x1), (2, .int x2), (3, .int x3), (4, .int x4)]) (hq : w_X12_alike_b28 Q x1 x2 h X28 x3 x4) : W p l e rmX12_alike s m args below meth c H locs 0 0 (MQ below (va_Qi (fun r9 h9 => h9 = h ∧ Q r9) (kB SM G) (aS SM G)) args s 0 0 (aS SM G)) (F0 m 28 ls []) := by
  have hx := C.1
  have hb := C.2.1
  unfold w_X12_alike_b28 at hq
  refine lv_iload hx hb dX12_alike_28 (lv_at hl 4 rfl) ?_
  refine lv_aload_n hx hb dX12_alike_30 rfl (lv_at hl 0 rfl) ?_
  refine gt12_25 C hK hW (rfl : shM 0 = 12) (List.mem_cons_of_mem _ mw275) (fun _ h9 => List.mem_cons_of_mem _ (inU_wsX120 _ h9)) dX12_alike_31 ?_
  refine lv_aload_n hx hb dX12_alike_34 rfl (lv_at hl 0 rfl) ?_
  refine gt12_18 C hK hW (rfl : shM 0 = 12) (List.mem_cons_of_mem _ mw610) (fun _ h9 => List.mem_cons_of_mem _ (inU_wsX120 _ h9)) dX12_alike_35 ?_
  refine k_iald C hK hW (shM_lt (rfl : shM 12 = 14) (by decide)) (ceM_14 (rfl : shM 12 = 14) (rfl : lnM 12 = 2)) hq.1 dX12_alike_38 ?_
  have hq := hq.2
  refine lv_icmp_ge (tgt := 68) hx hb dX12_alike_39 (by decide) (fun c8 => ?_) (fun c8 => ?_)
  · have hq := hq.1 c8
    refine lv_iload_n hx hb dX12_alike_68 rfl (lv_at hl 3 rfl) ?_
    exact k_iret rfl C hW dX12_alike_69 ⟨rfl, hq⟩
  · have hq := hq.2 c8
    refine lv_aload_n hx hb dX12_alike_42 rfl (lv_at hl 0 rfl) ?_
    refine lv_iload_n hx hb dX12_alike_43 rfl (lv_at hl 1 rfl) ?_
    refine lv_iload hx hb dX12_alike_44 (lv_at hl 4 rfl) ?_
    refine k_ci hW (va_runV (As := [.int x1, .int x4]) (rest := []) (k_fix C) (c_X12_restBy l G h x1 x4 _ hq) (cwV 2 C.2.2.2.2.2.1 (gU_V mw1432 mw1433 mw1434 mw5 mw1435) rfl rfl rfl (by decide +kernel) ⟨Nat.le_of_ble_eq_true rfl, Nat.le_of_ble_eq_true rfl⟩) (k_preV hK hW (shM_lt (rfl : shM 0 = 12) (by decide)) (ceM_12 (rfl : shM 0 = 12)) (q := (RX12, TX12, 73)) rfl) rfl rfl hl.1 rfl (lv_room (Nat.le_of_ble_eq_true rfl)) dX12_alike_46 ⟨Nat.le_refl 0, Nat.le_refl 0⟩) (fun r9 h10 H locs hq hW => ?_)
    rw [hq.1] at hW
    have hq := hq.2
    refine lv_aload_n hx hb dX12_alike_49 rfl (lv_at hl 0 rfl) ?_
    refine lv_iload_n hx hb dX12_alike_50 rfl (lv_at hl 2 rfl) ?_
    refine lv_iload hx hb dX12_alike_51 (lv_at hl 4 rfl) ?_
    refine k_ci hW (va_runV (As := [.int x2, .int x4]) (rest := [.int r9]) (k_fix C) (c_X12_restBy l G h x2 x4 _ hq) (cwV 2 C.2.2.2.2.2.1 (gU_V mw1432 mw1433 mw1434 mw5 mw1435) rfl rfl rfl (by decide +kernel) ⟨Nat.le_of_ble_eq_true rfl, Nat.le_of_ble_eq_true rfl⟩) (k_preV hK hW (shM_lt (rfl : shM 0 = 12) (by decide)) (ceM_12 (rfl : shM 0 = 12)) (q := (RX12, TX12, 73)) rfl) rfl rfl hl.1 rfl (lv_room (Nat.le_of_ble_eq_true rfl)) dX12_alike_53 ⟨Nat.le_refl 0, Nat.le_refl 0⟩) (fun r11 h12 H locs hq hW => ?_)
    rw [hq.1] at hW
    have hq := hq.2
    refine lv_icmp_ne (tgt := 62) hx hb dX12_alike_56 (by decide) (fun c13 => ?_) (fun c13 => ?_)
    · have hq := hq.1 c13
      obtain ⟨x4_14, ex4_14⟩ : ∃ y : Int32, y = x4 + 1 := ⟨_, rfl⟩
      have hq := hq x4_14 ex4_14
      refine lv_iinc (v := x4_14) (lv' := [(4, .int x4_14), (0, .ref (G.2.2 0)), (1, .int x1), (2, .int x2), (3, .int x3)]) hx hb dX12_alike_62 hl (k := 4) rfl (by rw [ex4_14]; rfl) (by decide) rfl (fun ls hl => ?_)
      refine lv_goto (tgt := 28) hx hb dX12_alike_65 (by decide) ?_
      exact hX28 _ _ _ _ _ hW (lv_sub hl [1, 2, 3, 4, 0] rfl) hq
    · have hq := hq.2 c13
      obtain ⟨x3_15, ex3_15⟩ : ∃ y : Int32, y = x3 + 1 := ⟨_, rfl⟩
      have hq := hq x3_15 ex3_15
      refine lv_iinc (v := x3_15) (lv' := [(3, .int x3_15), (0, .ref (G.2.2 0)), (1, .int x1), (2, .int x2), (4, .int x4)]) hx hb dX12_alike_59 hl (k := 3) rfl (by rw [ex3_15]; rfl) (by decide) rfl (fun ls hl => ?_)
      obtain ⟨x4_16, ex4_16⟩ : ∃ y : Int32, y = x4 + 1 := ⟨_, rfl⟩
      have hq := hq x4_16 ex4_16
      refine lv_iinc (v := x4_16) (lv' := [(4, .int x4_16), (3, .int x3_15), (0, .ref (G.2.2 0)), (1, .int x1), (2, .int x2)]) hx hb dX12_alike_62 hl (k := 4) rfl (by rw [ex4_16]; rfl) (by decide) rfl (fun ls hl => ?_)
      refine lv_goto (tgt := 28) hx hb dX12_alike_65 (by decide) ?_
      exact hX28 _ _ _ _ _ hW (lv_sub hl [2, 3, 4, 1, 0] rfl) hq
theorem k_X12_alike_28 {Q : Int32 → Prop} {x1 : Int32} {x2 : Int32} {h : hp} (C : kC p s m args meth c cX12_alike 5 (some .int) RX12 wUX12_alike) (hK : kK G s) {x3 : Int32} {x4 : Int32} {H : Heap} {locs : List Loc} {ls : Array Slot} (hW : kW SM G h (aS SM G) s H locs) (hl : lv_has ls 5 [(0, .ref (G.2.2 0)), (1, .int x1), (2, .int x2), (3, .int x3), (4, .int x4)]) (hq : w_X12_alike_28 Q x1 x2 h x3 x4) : W p l e rmX12_alike s m args below meth c H locs 0 0 (MQ below (va_Qi (fun r9 h9 => h9 = h ∧ Q r9) (kB SM G) (aS SM G)) args s 0 0 (aS SM G)) (F0 m 28 ls []) := by
  have key := hq (fun (q : Int32 × Int32) => ∀ (H : Heap) (locs : List Loc) (ls : Array Slot), kW SM G h (aS SM G) s H locs → lv_has ls 5 [(0, .ref (G.2.2 0)), (1, .int x1), (2, .int x2), (3, .int q.1), (4, .int q.2)] → W p l e rmX12_alike s m args below meth c H locs 0 0 (MQ below (va_Qi (fun r9 h9 => h9 = h ∧ Q r9) (kB SM G) (aS SM G)) args s 0 0 (aS SM G)) (F0 m 28 ls []))
    (fun q hq H locs ls hW hl => k_X12_alike_b28 C hK (fun x3 x4 H locs ls hW hl hI => hI H locs ls hW hl) hW hl hq)
  exact key _ _ _ hW hl
theorem k_X12_alike_0 {Q : Int32 → Prop} {x1 : Int32} {x2 : Int32} {h : hp} (C : kC p s m args meth c cX12_alike 5 (some .int) RX12 wUX12_alike) (hK : kK G s) {H : Heap} {locs : List Loc} {ls : Array Slot} (hW : kW SM G h (aS SM G) s H locs) (hl : lv_has ls 5 [(0, .ref (G.2.2 0)), (1, .int x1), (2, .int x2)]) (hq : w_X12_alike_0 Q x1 x2 h) : W p l e rmX12_alike s m args below meth c H locs 0 0 (MQ below (va_Qi (fun r9 h9 => h9 = h ∧ Q r9) (kB SM G) (aS SM G)) args s 0 0 (aS SM G)) (F0 m 0 ls []) := by
  have hx := C.1
  have hb := C.2.1
  unfold w_X12_alike_0 at hq
  refine lv_aload_n hx hb dX12_alike_0 rfl (lv_at hl 0 rfl) ?_
  refine lv_iload_n hx hb dX12_alike_1 rfl (lv_at hl 1 rfl) ?_
  refine k_ci hW (va_runV (As := [.int x1]) (rest := []) (k_fix C) (c_X12_isRow l G h x1 _ hq) (cwV 1 C.2.2.2.2.2.1 (gU_V mw758 mw759 mw760 mw5 mw761) rfl rfl rfl (by decide +kernel) ⟨Nat.le_of_ble_eq_true rfl, Nat.le_of_ble_eq_true rfl⟩) (k_preV hK hW (shM_lt (rfl : shM 0 = 12) (by decide)) (ceM_12 (rfl : shM 0 = 12)) (q := (RX12, TX12, 73)) rfl) rfl rfl hl.1 rfl (lv_room (Nat.le_of_ble_eq_true rfl)) dX12_alike_2 ⟨Nat.le_refl 0, Nat.le_refl 0⟩) (fun r1 h2 H locs hq hW => ?_)
  rw [hq.1] at hW
  have hq := hq.2
  refine lv_if_eq (tgt := 21) hx hb dX12_alike_5 (by decide) (fun c3 => ?_) (fun c3 => ?_)
  · have hq := hq.1 c3
    refine lv_iconst (v := (-1)) hx hb dX12_alike_21 (by decide) ?_
    exact k_iret rfl C hW dX12_alike_22 ⟨rfl, hq⟩
  · have hq := hq.2 c3
    refine lv_aload_n hx hb dX12_alike_8 rfl (lv_at hl 0 rfl) ?_
    refine lv_iload_n hx hb dX12_alike_9 rfl (lv_at hl 2 rfl) ?_
    refine k_ci hW (va_runV (As := [.int x2]) (rest := []) (k_fix C) (c_X12_isRow l G h x2 _ hq) (cwV 1 C.2.2.2.2.2.1 (gU_V mw758 mw759 mw760 mw5 mw761) rfl rfl rfl (by decide +kernel) ⟨Nat.le_of_ble_eq_true rfl, Nat.le_of_ble_eq_true rfl⟩) (k_preV hK hW (shM_lt (rfl : shM 0 = 12) (by decide)) (ceM_12 (rfl : shM 0 = 12)) (q := (RX12, TX12, 73)) rfl) rfl rfl hl.1 rfl (lv_room (Nat.le_of_ble_eq_true rfl)) dX12_alike_10 ⟨Nat.le_refl 0, Nat.le_refl 0⟩) (fun r4 h5 H locs hq hW => ?_)
    rw [hq.1] at hW
    have hq := hq.2
    refine lv_if_eq (tgt := 21) hx hb dX12_alike_13 (by decide) (fun c6 => ?_) (fun c6 => ?_)
    · have hq := hq.1 c6
      refine lv_iconst (v := (-1)) hx hb dX12_alike_21 (by decide) ?_
      exact k_iret rfl C hW dX12_alike_22 ⟨rfl, hq⟩
    · have hq := hq.2 c6
      refine lv_iload_n hx hb dX12_alike_16 rfl (lv_at hl 1 rfl) ?_
      refine lv_iload_n hx hb dX12_alike_17 rfl (lv_at hl 2 rfl) ?_
      refine lv_icmp_ne (tgt := 23) hx hb dX12_alike_18 (by decide) (fun c7 => ?_) (fun c7 => ?_)
      · have hq := hq.1 c7
        refine lv_iconst (v := 0) hx hb dX12_alike_23 (by decide) ?_
        refine lv_istore_n (lv' := [(3, .int 0), (0, .ref (G.2.2 0)), (1, .int x1), (2, .int x2)]) hx hb dX12_alike_24 rfl hl (by decide) rfl (fun ls hl => ?_)
        refine lv_iconst (v := 0) hx hb dX12_alike_25 (by decide) ?_
        refine lv_istore (lv' := [(4, .int 0), (3, .int 0), (0, .ref (G.2.2 0)), (1, .int x1), (2, .int x2)]) hx hb dX12_alike_26 hl (by decide) rfl (fun ls hl => ?_)
        exact k_X12_alike_28 C hK hW (lv_sub hl [2, 3, 4, 1, 0] rfl) hq
      · have hq := hq.2 c7
        refine lv_iconst (v := (-1)) hx hb dX12_alike_21 (by decide) ?_
        exact k_iret rfl C hW dX12_alike_22 ⟨rfl, hq⟩
theorem c_X12_alike (l : Launch) (G : wG) (h : hp) (x1 : Int32) (x2 : Int32) (Q : Int32 → Prop) (hq : w_X12_alike h x1 x2 Q) : ctI l SM G yX12_alike wUX12_alike rmX12_alike h [.ref (G.2.2 0), .int x1, .int x2] (fun r9 h9 => h9 = h ∧ Q r9) := by
  refine k_start (cc := cX12_alike) (maxL := 5) (rt := (some .int)) (own := RX12) (by decide +kernel) rfl rfl (Nat.le_of_ble_eq_true rfl) ?_
  intro p e s m below meth c ls C hK hW hl
  exact k_X12_alike_0 C hK hW hl hq
theorem k_X12_meets_b25 {Q : Int32 → Prop} {X25 : Int32 → Prop} {x1 : Int32} {x2 : Int32} {h : hp} (C : kC p s m args meth c cX12_meets 4 (some .int) RX12 wUX12_meets) (hK : kK G s) (hX25 : ∀ (x3 : Int32) (H : Heap) (locs : List Loc) (ls : Array Slot), kW SM G h (aS SM G) s H locs → lv_has ls 4 [(0, .ref (G.2.2 0)), (1, .int x1), (2, .int x2), (3, .int x3)] → X25 x3 → W p l e rmX12_meets s m args below meth c H locs 0 0 (MQ below (va_Qi (fun r9 h9 => h9 = h ∧ Q r9) (kB SM G) (aS SM G)) args s 0 0 (aS SM G)) (F0 m 25 ls [])) {x3 : Int32} {H : Heap} {locs : List Loc} {ls : Array Slot} (hW : kW SM G h (aS SM G) s H locs) (hl : lv_has ls 4 [(0, .ref (G.2.2 0)), (1, .int x1), (2, .int x2), (3, .int x3)]) (hq : w_X12_meets_b25 Q x1 x2 h X25 x3) : W p l e rmX12_meets s m args below meth c H locs 0 0 (MQ below (va_Qi (fun r9 h9 => h9 = h ∧ Q r9) (kB SM G) (aS SM G)) args s 0 0 (aS SM G)) (F0 m 25 ls []) := by
  have hx := C.1
  have hb := C.2.1
  unfold w_X12_meets_b25 at hq
  refine lv_iload_n hx hb dX12_meets_25 rfl (lv_at hl 3 rfl) ?_
  refine lv_sipush (v := 1000) hx hb dX12_meets_26 (by decide) ?_
  refine lv_icmp_ge (tgt := 58) hx hb dX12_meets_29 (by decide) (fun c8 => ?_) (fun c8 => ?_)
  · have hq := hq.1 c8
    refine lv_bipush (v := (-2)) hx hb dX12_meets_58 (by decide) ?_
    exact k_iret rfl C hW dX12_meets_60 ⟨rfl, hq⟩
  · have hq := hq.2 c8
    refine lv_aload_n hx hb dX12_meets_32 rfl (lv_at hl 0 rfl) ?_
    refine lv_iload_n hx hb dX12_meets_33 rfl (lv_at hl 1 rfl) ?_
    refine lv_iload_n hx hb dX12_meets_34 rfl (lv_at hl 3 rfl) ?_
    refine lv_i2l (v := x3.toInt64) hx hb dX12_meets_35 rfl ?_
    refine k_cl hW (va_runV (As := [.int x1, .long (x3.toInt64)]) (rest := []) (k_fix C) (c_X12_comesBy l G h x1 (x3.toInt64) _ hq) (cwV 2 C.2.2.2.2.2.1 (gU_V mw793 mw794 mw795 mw5 mw796) rfl rfl rfl (by decide +kernel) ⟨Nat.le_of_ble_eq_true rfl, Nat.le_of_ble_eq_true rfl⟩) (k_preV hK hW (shM_lt (rfl : shM 0 = 12) (by decide)) (ceM_12 (rfl : shM 0 = 12)) (q := (RX12, TX12, 73)) rfl) rfl rfl hl.1 rfl (lv_room (Nat.le_of_ble_eq_true rfl)) dX12_meets_36 ⟨Nat.le_refl 0, Nat.le_refl 0⟩) (fun r9 h10 H locs hq hW => ?_)
    rw [hq.1] at hW
    have hq := hq.2
    refine lv_aload_n hx hb dX12_meets_39 rfl (lv_at hl 0 rfl) ?_
    refine lv_iload_n hx hb dX12_meets_40 rfl (lv_at hl 2 rfl) ?_
    refine lv_iload_n hx hb dX12_meets_41 rfl (lv_at hl 3 rfl) ?_
    refine lv_i2l (v := x3.toInt64) hx hb dX12_meets_42 rfl ?_
    refine k_cl hW (va_runV (As := [.int x2, .long (x3.toInt64)]) (rest := [.long r9]) (k_fix C) (c_X12_comesBy l G h x2 (x3.toInt64) _ hq) (cwV 2 C.2.2.2.2.2.1 (gU_V mw793 mw794 mw795 mw5 mw796) rfl rfl rfl (by decide +kernel) ⟨Nat.le_of_ble_eq_true rfl, Nat.le_of_ble_eq_true rfl⟩) (k_preV hK hW (shM_lt (rfl : shM 0 = 12) (by decide)) (ceM_12 (rfl : shM 0 = 12)) (q := (RX12, TX12, 73)) rfl) rfl rfl hl.1 rfl (lv_room (Nat.le_of_ble_eq_true rfl)) dX12_meets_43 ⟨Nat.le_refl 0, Nat.le_refl 0⟩) (fun r11 h12 H locs hq hW => ?_)
    rw [hq.1] at hW
    have hq := hq.2
    refine W.lcmp hx hb dX12_meets_46 ?_
    refine lv_if_ne (tgt := 52) hx hb dX12_meets_47 (by decide) (fun c13 => ?_) (fun c13 => ?_)
    · have hq := hq.1 (fun z => c13 ((lg_cmp_eq _ _).mpr z))
      obtain ⟨x3_14, ex3_14⟩ : ∃ y : Int32, y = x3 + 1 := ⟨_, rfl⟩
      have hq := hq x3_14 ex3_14
      refine lv_iinc (v := x3_14) (lv' := [(3, .int x3_14), (0, .ref (G.2.2 0)), (1, .int x1), (2, .int x2)]) hx hb dX12_meets_52 hl (k := 3) rfl (by rw [ex3_14]; rfl) (by decide) rfl (fun ls hl => ?_)
      refine lv_goto (tgt := 25) hx hb dX12_meets_55 (by decide) ?_
      exact hX25 _ _ _ _ hW (lv_sub hl [1, 2, 3, 0] rfl) hq
    · have hq := hq.2 ((lg_cmp_eq _ _).mp c13)
      refine lv_iload_n hx hb dX12_meets_50 rfl (lv_at hl 3 rfl) ?_
      exact k_iret rfl C hW dX12_meets_51 ⟨rfl, hq⟩
theorem k_X12_meets_25 {Q : Int32 → Prop} {x1 : Int32} {x2 : Int32} {h : hp} (C : kC p s m args meth c cX12_meets 4 (some .int) RX12 wUX12_meets) (hK : kK G s) {x3 : Int32} {H : Heap} {locs : List Loc} {ls : Array Slot} (hW : kW SM G h (aS SM G) s H locs) (hl : lv_has ls 4 [(0, .ref (G.2.2 0)), (1, .int x1), (2, .int x2), (3, .int x3)]) (hq : w_X12_meets_25 Q x1 x2 h x3) : W p l e rmX12_meets s m args below meth c H locs 0 0 (MQ below (va_Qi (fun r9 h9 => h9 = h ∧ Q r9) (kB SM G) (aS SM G)) args s 0 0 (aS SM G)) (F0 m 25 ls []) := by
  have key := hq (fun (q : Int32) => ∀ (H : Heap) (locs : List Loc) (ls : Array Slot), kW SM G h (aS SM G) s H locs → lv_has ls 4 [(0, .ref (G.2.2 0)), (1, .int x1), (2, .int x2), (3, .int q)] → W p l e rmX12_meets s m args below meth c H locs 0 0 (MQ below (va_Qi (fun r9 h9 => h9 = h ∧ Q r9) (kB SM G) (aS SM G)) args s 0 0 (aS SM G)) (F0 m 25 ls []))
    (fun q hq H locs ls hW hl => k_X12_meets_b25 C hK (fun x3 H locs ls hW hl hI => hI H locs ls hW hl) hW hl hq)
  exact key _ _ _ hW hl
theorem k_X12_meets_0 {Q : Int32 → Prop} {x1 : Int32} {x2 : Int32} {h : hp} (C : kC p s m args meth c cX12_meets 4 (some .int) RX12 wUX12_meets) (hK : kK G s) {H : Heap} {locs : List Loc} {ls : Array Slot} (hW : kW SM G h (aS SM G) s H locs) (hl : lv_has ls 4 [(0, .ref (G.2.2 0)), (1, .int x1), (2, .int x2)]) (hq : w_X12_meets_0 Q x1 x2 h) : W p l e rmX12_meets s m args below meth c H locs 0 0 (MQ below (va_Qi (fun r9 h9 => h9 = h ∧ Q r9) (kB SM G) (aS SM G)) args s 0 0 (aS SM G)) (F0 m 0 ls []) := by
  have hx := C.1
  have hb := C.2.1
  unfold w_X12_meets_0 at hq
  refine lv_aload_n hx hb dX12_meets_0 rfl (lv_at hl 0 rfl) ?_
  refine lv_iload_n hx hb dX12_meets_1 rfl (lv_at hl 1 rfl) ?_
  refine k_ci hW (va_runV (As := [.int x1]) (rest := []) (k_fix C) (c_X12_isRow l G h x1 _ hq) (cwV 1 C.2.2.2.2.2.1 (gU_V mw758 mw759 mw760 mw5 mw761) rfl rfl rfl (by decide +kernel) ⟨Nat.le_of_ble_eq_true rfl, Nat.le_of_ble_eq_true rfl⟩) (k_preV hK hW (shM_lt (rfl : shM 0 = 12) (by decide)) (ceM_12 (rfl : shM 0 = 12)) (q := (RX12, TX12, 73)) rfl) rfl rfl hl.1 rfl (lv_room (Nat.le_of_ble_eq_true rfl)) dX12_meets_2 ⟨Nat.le_refl 0, Nat.le_refl 0⟩) (fun r1 h2 H locs hq hW => ?_)
  rw [hq.1] at hW
  have hq := hq.2
  refine lv_if_eq (tgt := 21) hx hb dX12_meets_5 (by decide) (fun c3 => ?_) (fun c3 => ?_)
  · have hq := hq.1 c3
    refine lv_iconst (v := (-1)) hx hb dX12_meets_21 (by decide) ?_
    exact k_iret rfl C hW dX12_meets_22 ⟨rfl, hq⟩
  · have hq := hq.2 c3
    refine lv_aload_n hx hb dX12_meets_8 rfl (lv_at hl 0 rfl) ?_
    refine lv_iload_n hx hb dX12_meets_9 rfl (lv_at hl 2 rfl) ?_
    refine k_ci hW (va_runV (As := [.int x2]) (rest := []) (k_fix C) (c_X12_isRow l G h x2 _ hq) (cwV 1 C.2.2.2.2.2.1 (gU_V mw758 mw759 mw760 mw5 mw761) rfl rfl rfl (by decide +kernel) ⟨Nat.le_of_ble_eq_true rfl, Nat.le_of_ble_eq_true rfl⟩) (k_preV hK hW (shM_lt (rfl : shM 0 = 12) (by decide)) (ceM_12 (rfl : shM 0 = 12)) (q := (RX12, TX12, 73)) rfl) rfl rfl hl.1 rfl (lv_room (Nat.le_of_ble_eq_true rfl)) dX12_meets_10 ⟨Nat.le_refl 0, Nat.le_refl 0⟩) (fun r4 h5 H locs hq hW => ?_)
    rw [hq.1] at hW
    have hq := hq.2
    refine lv_if_eq (tgt := 21) hx hb dX12_meets_13 (by decide) (fun c6 => ?_) (fun c6 => ?_)
    · have hq := hq.1 c6
      refine lv_iconst (v := (-1)) hx hb dX12_meets_21 (by decide) ?_
      exact k_iret rfl C hW dX12_meets_22 ⟨rfl, hq⟩
    · have hq := hq.2 c6
      refine lv_iload_n hx hb dX12_meets_16 rfl (lv_at hl 1 rfl) ?_
      refine lv_iload_n hx hb dX12_meets_17 rfl (lv_at hl 2 rfl) ?_
      refine lv_icmp_ne (tgt := 23) hx hb dX12_meets_18 (by decide) (fun c7 => ?_) (fun c7 => ?_)
      · have hq := hq.1 c7
        refine lv_iconst (v := 0) hx hb dX12_meets_23 (by decide) ?_
        refine lv_istore_n (lv' := [(3, .int 0), (0, .ref (G.2.2 0)), (1, .int x1), (2, .int x2)]) hx hb dX12_meets_24 rfl hl (by decide) rfl (fun ls hl => ?_)
        exact k_X12_meets_25 C hK hW (lv_sub hl [1, 2, 3, 0] rfl) hq
      · have hq := hq.2 c7
        refine lv_iconst (v := (-1)) hx hb dX12_meets_21 (by decide) ?_
        exact k_iret rfl C hW dX12_meets_22 ⟨rfl, hq⟩
theorem c_X12_meets (l : Launch) (G : wG) (h : hp) (x1 : Int32) (x2 : Int32) (Q : Int32 → Prop) (hq : w_X12_meets h x1 x2 Q) : ctI l SM G yX12_meets wUX12_meets rmX12_meets h [.ref (G.2.2 0), .int x1, .int x2] (fun r9 h9 => h9 = h ∧ Q r9) := by
  refine k_start (cc := cX12_meets) (maxL := 4) (rt := (some .int)) (own := RX12) (by decide +kernel) rfl rfl (Nat.le_of_ble_eq_true rfl) ?_
  intro p e s m below meth c ls C hK hW hl
  exact k_X12_meets_0 C hK hW hl hq
theorem k_X12_worldAll_b4 {Q : Int32 → Prop} {X4 : Int32 × Int32 → Prop} {h : hp} (C : kC p s m args meth c cX12_worldAll 3 (some .int) RX12 wUX12_worldAll) (hK : kK G s) (hX4 : ∀ (x1 : Int32) (x2 : Int32) (H : Heap) (locs : List Loc) (ls : Array Slot), kW SM G h (aS SM G) s H locs → lv_has ls 3 [(0, .ref (G.2.2 0)), (1, .int x1), (2, .int x2)] → X4 (x1, x2) → W p l e rmX12_worldAll s m args below meth c H locs 0 0 (MQ below (va_Qi (fun r9 h9 => h9 = h ∧ Q r9) (kB SM G) (aS SM G)) args s 0 0 (aS SM G)) (F0 m 4 ls [])) {x1 : Int32} {x2 : Int32} {H : Heap} {locs : List Loc} {ls : Array Slot} (hW : kW SM G h (aS SM G) s H locs) (hl : lv_has ls 3 [(0, .ref (G.2.2 0)), (1, .int x1), (2, .int x2)]) (hq : w_X12_worldAll_b4 Q h X4 x1 x2) : W p l e rmX12_worldAll s m args below meth c H locs 0 0 (MQ below (va_Qi (fun r9 h9 => h9 = h ∧ Q r9) (kB SM G) (aS SM G)) args s 0 0 (aS SM G)) (F0 m 4 ls []) := by
  have hx := C.1
  have hb := C.2.1
  unfold w_X12_worldAll_b4 at hq
  refine lv_iload_n hx hb dX12_worldAll_4 rfl (lv_at hl 2 rfl) ?_
  refine lv_aload_n hx hb dX12_worldAll_5 rfl (lv_at hl 0 rfl) ?_
  refine gt12_32 C hK hW (rfl : shM 0 = 12) (List.mem_cons_of_mem _ mw282) (fun _ h9 => List.mem_cons_of_mem _ (inU_wsX120 _ h9)) dX12_worldAll_6 ?_
  refine lv_aload_n hx hb dX12_worldAll_9 rfl (lv_at hl 0 rfl) ?_
  refine gt12_18 C hK hW (rfl : shM 0 = 12) (List.mem_cons_of_mem _ mw610) (fun _ h9 => List.mem_cons_of_mem _ (inU_wsX120 _ h9)) dX12_worldAll_10 ?_
  refine k_iald C hK hW (shM_lt (rfl : shM 19 = 14) (by decide)) (ceM_14 (rfl : shM 19 = 14) (rfl : lnM 19 = 2)) hq.1 dX12_worldAll_13 ?_
  have hq := hq.2
  refine lv_icmp_ge (tgt := 37) hx hb dX12_worldAll_14 (by decide) (fun c1 => ?_) (fun c1 => ?_)
  · have hq := hq.1 c1
    refine lv_iload_n hx hb dX12_worldAll_37 rfl (lv_at hl 1 rfl) ?_
    exact k_iret rfl C hW dX12_worldAll_38 ⟨rfl, hq⟩
  · have hq := hq.2 c1
    refine lv_iload_n hx hb dX12_worldAll_17 rfl (lv_at hl 1 rfl) ?_
    refine lv_aload_n hx hb dX12_worldAll_18 rfl (lv_at hl 0 rfl) ?_
    refine gt12_33 C hK hW (rfl : shM 0 = 12) (List.mem_cons_of_mem _ mw283) (fun _ h9 => List.mem_cons_of_mem _ (inU_wsX120 _ h9)) dX12_worldAll_19 ?_
    refine lv_aload_n hx hb dX12_worldAll_22 rfl (lv_at hl 0 rfl) ?_
    refine gt12_18 C hK hW (rfl : shM 0 = 12) (List.mem_cons_of_mem _ mw610) (fun _ h9 => List.mem_cons_of_mem _ (inU_wsX120 _ h9)) dX12_worldAll_23 ?_
    refine k_iald C hK hW (shM_lt (rfl : shM 20 = 14) (by decide)) (ceM_14 (rfl : shM 20 = 14) (rfl : lnM 20 = 2)) hq.1 dX12_worldAll_26 ?_
    have hq := hq.2
    refine lv_iconst (v := 1) hx hb dX12_worldAll_27 (by decide) ?_
    refine lv_iadd hx hb dX12_worldAll_28 ?_
    refine lv_imul hx hb dX12_worldAll_29 ?_
    refine lv_topi (fun x1_2 ex1_2 => ?_)
    have hq := hq x1_2 ex1_2
    refine lv_istore_n (lv' := [(1, .int x1_2), (0, .ref (G.2.2 0)), (2, .int x2)]) hx hb dX12_worldAll_30 rfl hl (by decide) rfl (fun ls hl => ?_)
    obtain ⟨x2_3, ex2_3⟩ : ∃ y : Int32, y = x2 + 1 := ⟨_, rfl⟩
    have hq := hq x2_3 ex2_3
    refine lv_iinc (v := x2_3) (lv' := [(2, .int x2_3), (1, .int x1_2), (0, .ref (G.2.2 0))]) hx hb dX12_worldAll_31 hl (k := 2) rfl (by rw [ex2_3]; rfl) (by decide) rfl (fun ls hl => ?_)
    refine lv_goto (tgt := 4) hx hb dX12_worldAll_34 (by decide) ?_
    exact hX4 _ _ _ _ _ hW (lv_sub hl [2, 1, 0] rfl) hq
theorem k_X12_worldAll_4 {Q : Int32 → Prop} {h : hp} (C : kC p s m args meth c cX12_worldAll 3 (some .int) RX12 wUX12_worldAll) (hK : kK G s) {x1 : Int32} {x2 : Int32} {H : Heap} {locs : List Loc} {ls : Array Slot} (hW : kW SM G h (aS SM G) s H locs) (hl : lv_has ls 3 [(0, .ref (G.2.2 0)), (1, .int x1), (2, .int x2)]) (hq : w_X12_worldAll_4 Q h x1 x2) : W p l e rmX12_worldAll s m args below meth c H locs 0 0 (MQ below (va_Qi (fun r9 h9 => h9 = h ∧ Q r9) (kB SM G) (aS SM G)) args s 0 0 (aS SM G)) (F0 m 4 ls []) := by
  have key := hq (fun (q : Int32 × Int32) => ∀ (H : Heap) (locs : List Loc) (ls : Array Slot), kW SM G h (aS SM G) s H locs → lv_has ls 3 [(0, .ref (G.2.2 0)), (1, .int q.1), (2, .int q.2)] → W p l e rmX12_worldAll s m args below meth c H locs 0 0 (MQ below (va_Qi (fun r9 h9 => h9 = h ∧ Q r9) (kB SM G) (aS SM G)) args s 0 0 (aS SM G)) (F0 m 4 ls []))
    (fun q hq H locs ls hW hl => k_X12_worldAll_b4 C hK (fun x1 x2 H locs ls hW hl hI => hI H locs ls hW hl) hW hl hq)
  exact key _ _ _ hW hl
theorem k_X12_worldAll_0 {Q : Int32 → Prop} {h : hp} (C : kC p s m args meth c cX12_worldAll 3 (some .int) RX12 wUX12_worldAll) (hK : kK G s) {H : Heap} {locs : List Loc} {ls : Array Slot} (hW : kW SM G h (aS SM G) s H locs) (hl : lv_has ls 3 [(0, .ref (G.2.2 0))]) (hq : w_X12_worldAll_0 Q h) : W p l e rmX12_worldAll s m args below meth c H locs 0 0 (MQ below (va_Qi (fun r9 h9 => h9 = h ∧ Q r9) (kB SM G) (aS SM G)) args s 0 0 (aS SM G)) (F0 m 0 ls []) := by
  have hx := C.1
  have hb := C.2.1
  unfold w_X12_worldAll_0 at hq
  refine lv_iconst (v := 1) hx hb dX12_worldAll_0 (by decide) ?_
  refine lv_istore_n (lv' := [(1, .int 1), (0, .ref (G.2.2 0))]) hx hb dX12_worldAll_1 rfl hl (by decide) rfl (fun ls hl => ?_)
  refine lv_iconst (v := 0) hx hb dX12_worldAll_2 (by decide) ?_
  refine lv_istore_n (lv' := [(2, .int 0), (1, .int 1), (0, .ref (G.2.2 0))]) hx hb dX12_worldAll_3 rfl hl (by decide) rfl (fun ls hl => ?_)
  exact k_X12_worldAll_4 C hK hW (lv_sub hl [2, 1, 0] rfl) hq
theorem c_X12_worldAll (l : Launch) (G : wG) (h : hp) (Q : Int32 → Prop) (hq : w_X12_worldAll h Q) : ctI l SM G yX12_worldAll wUX12_worldAll rmX12_worldAll h [.ref (G.2.2 0)] (fun r9 h9 => h9 = h ∧ Q r9) := by
  refine k_start (cc := cX12_worldAll) (maxL := 3) (rt := (some .int)) (own := RX12) (by decide +kernel) rfl rfl (Nat.le_of_ble_eq_true rfl) ?_
  intro p e s m below meth c ls C hK hW hl
  exact k_X12_worldAll_0 C hK hW hl hq
theorem k_X12_figureOf_b5 {Q : Int32 → Prop} {X5 : Int32 × Int32 → Prop} {x2 : Int32} {h : hp} (C : kC p s m args meth c cX12_figureOf 5 (some .int) RX12 wUX12_figureOf) (hK : kK G s) (hX5 : ∀ (x3 : Int32) (x4 : Int32) (H : Heap) (locs : List Loc) (ls : Array Slot), kW SM G h (aS SM G) s H locs → lv_has ls 5 [(0, .ref (G.2.2 0)), (2, .int x2), (3, .int x3), (4, .int x4)] → X5 (x3, x4) → W p l e rmX12_figureOf s m args below meth c H locs 0 0 (MQ below (va_Qi (fun r9 h9 => h9 = h ∧ Q r9) (kB SM G) (aS SM G)) args s 0 0 (aS SM G)) (F0 m 5 ls [])) {x3 : Int32} {x4 : Int32} {H : Heap} {locs : List Loc} {ls : Array Slot} (hW : kW SM G h (aS SM G) s H locs) (hl : lv_has ls 5 [(0, .ref (G.2.2 0)), (2, .int x2), (3, .int x3), (4, .int x4)]) (hq : w_X12_figureOf_b5 Q x2 h X5 x3 x4) : W p l e rmX12_figureOf s m args below meth c H locs 0 0 (MQ below (va_Qi (fun r9 h9 => h9 = h ∧ Q r9) (kB SM G) (aS SM G)) args s 0 0 (aS SM G)) (F0 m 5 ls []) := by
  have hx := C.1
  have hb := C.2.1
  unfold w_X12_figureOf_b5 at hq
  refine lv_iload hx hb dX12_figureOf_5 (lv_at hl 3 rfl) ?_
  refine lv_iload_n hx hb dX12_figureOf_7 rfl (lv_at hl 1 rfl) ?_
  refine lv_icmp_ge (tgt := 31) hx hb dX12_figureOf_8 (by decide) (fun c1 => ?_) (fun c1 => ?_)
  · have hq := hq.1 c1
    refine lv_iload_n hx hb dX12_figureOf_31 rfl (lv_at hl 2 rfl) ?_
    refine lv_aload_n hx hb dX12_figureOf_32 rfl (lv_at hl 0 rfl) ?_
    refine gt12_33 C hK hW (rfl : shM 0 = 12) (List.mem_cons_of_mem _ mw283) (fun _ h9 => List.mem_cons_of_mem _ (inU_wsX120 _ h9)) dX12_figureOf_33 ?_
    refine lv_aload_n hx hb dX12_figureOf_36 rfl (lv_at hl 0 rfl) ?_
    refine gt12_18 C hK hW (rfl : shM 0 = 12) (List.mem_cons_of_mem _ mw610) (fun _ h9 => List.mem_cons_of_mem _ (inU_wsX120 _ h9)) dX12_figureOf_37 ?_
    refine k_iald C hK hW (shM_lt (rfl : shM 20 = 14) (by decide)) (ceM_14 (rfl : shM 20 = 14) (rfl : lnM 20 = 2)) hq.1 dX12_figureOf_40 ?_
    have hq := hq.2
    refine lv_iconst (v := 1) hx hb dX12_figureOf_41 (by decide) ?_
    refine lv_iadd hx hb dX12_figureOf_42 ?_
    refine k_irem hx hb dX12_figureOf_43 hq.1 ?_
    have hq := hq.2
    exact k_iret rfl C hW dX12_figureOf_44 ⟨rfl, hq⟩
  · have hq := hq.2 c1
    refine lv_iload_n hx hb dX12_figureOf_11 rfl (lv_at hl 2 rfl) ?_
    refine lv_aload_n hx hb dX12_figureOf_12 rfl (lv_at hl 0 rfl) ?_
    refine gt12_33 C hK hW (rfl : shM 0 = 12) (List.mem_cons_of_mem _ mw283) (fun _ h9 => List.mem_cons_of_mem _ (inU_wsX120 _ h9)) dX12_figureOf_13 ?_
    refine lv_aload_n hx hb dX12_figureOf_16 rfl (lv_at hl 0 rfl) ?_
    refine gt12_18 C hK hW (rfl : shM 0 = 12) (List.mem_cons_of_mem _ mw610) (fun _ h9 => List.mem_cons_of_mem _ (inU_wsX120 _ h9)) dX12_figureOf_17 ?_
    refine k_iald C hK hW (shM_lt (rfl : shM 20 = 14) (by decide)) (ceM_14 (rfl : shM 20 = 14) (rfl : lnM 20 = 2)) hq.1 dX12_figureOf_20 ?_
    have hq := hq.2
    refine lv_iconst (v := 1) hx hb dX12_figureOf_21 (by decide) ?_
    refine lv_iadd hx hb dX12_figureOf_22 ?_
    refine lv_idiv hx hb dX12_figureOf_23 hq.1 ?_
    have hq := hq.2
    refine lv_topi (fun x3_2 ex3_2 => ?_)
    have hq := hq x3_2 ex3_2
    refine lv_istore_n (lv' := [(3, .int x3_2), (0, .ref (G.2.2 0)), (2, .int x2), (4, .int x4)]) hx hb dX12_figureOf_24 rfl hl (by decide) rfl (fun ls hl => ?_)
    obtain ⟨x4_3, ex4_3⟩ : ∃ y : Int32, y = x4 + 1 := ⟨_, rfl⟩
    have hq := hq x4_3 ex4_3
    refine lv_iinc (v := x4_3) (lv' := [(4, .int x4_3), (3, .int x3_2), (0, .ref (G.2.2 0)), (2, .int x2)]) hx hb dX12_figureOf_25 hl (k := 3) rfl (by rw [ex4_3]; rfl) (by decide) rfl (fun ls hl => ?_)
    refine lv_goto (tgt := 5) hx hb dX12_figureOf_28 (by decide) ?_
    exact hX5 _ _ _ _ _ hW (lv_sub hl [2, 3, 1, 0] rfl) hq
theorem k_X12_figureOf_5 {Q : Int32 → Prop} {x2 : Int32} {h : hp} (C : kC p s m args meth c cX12_figureOf 5 (some .int) RX12 wUX12_figureOf) (hK : kK G s) {x3 : Int32} {x4 : Int32} {H : Heap} {locs : List Loc} {ls : Array Slot} (hW : kW SM G h (aS SM G) s H locs) (hl : lv_has ls 5 [(0, .ref (G.2.2 0)), (2, .int x2), (3, .int x3), (4, .int x4)]) (hq : w_X12_figureOf_5 Q x2 h x3 x4) : W p l e rmX12_figureOf s m args below meth c H locs 0 0 (MQ below (va_Qi (fun r9 h9 => h9 = h ∧ Q r9) (kB SM G) (aS SM G)) args s 0 0 (aS SM G)) (F0 m 5 ls []) := by
  have key := hq (fun (q : Int32 × Int32) => ∀ (H : Heap) (locs : List Loc) (ls : Array Slot), kW SM G h (aS SM G) s H locs → lv_has ls 5 [(0, .ref (G.2.2 0)), (2, .int x2), (3, .int q.1), (4, .int q.2)] → W p l e rmX12_figureOf s m args below meth c H locs 0 0 (MQ below (va_Qi (fun r9 h9 => h9 = h ∧ Q r9) (kB SM G) (aS SM G)) args s 0 0 (aS SM G)) (F0 m 5 ls []))
    (fun q hq H locs ls hW hl => k_X12_figureOf_b5 C hK (fun x3 x4 H locs ls hW hl hI => hI H locs ls hW hl) hW hl hq)
  exact key _ _ _ hW hl
theorem k_X12_figureOf_0 {Q : Int32 → Prop} {x1 : Int32} {x2 : Int32} {h : hp} (C : kC p s m args meth c cX12_figureOf 5 (some .int) RX12 wUX12_figureOf) (hK : kK G s) {H : Heap} {locs : List Loc} {ls : Array Slot} (hW : kW SM G h (aS SM G) s H locs) (hl : lv_has ls 5 [(0, .ref (G.2.2 0)), (1, .int x1), (2, .int x2)]) (hq : w_X12_figureOf_0 Q x1 x2 h) : W p l e rmX12_figureOf s m args below meth c H locs 0 0 (MQ below (va_Qi (fun r9 h9 => h9 = h ∧ Q r9) (kB SM G) (aS SM G)) args s 0 0 (aS SM G)) (F0 m 0 ls []) := by
  have hx := C.1
  have hb := C.2.1
  unfold w_X12_figureOf_0 at hq
  refine lv_iload_n hx hb dX12_figureOf_0 rfl (lv_at hl 1 rfl) ?_
  refine lv_istore_n (lv' := [(3, .int x1), (0, .ref (G.2.2 0)), (1, .int x1), (2, .int x2)]) hx hb dX12_figureOf_1 rfl hl (by decide) rfl (fun ls hl => ?_)
  refine lv_iconst (v := 0) hx hb dX12_figureOf_2 (by decide) ?_
  refine lv_istore (lv' := [(4, .int 0), (3, .int x1), (0, .ref (G.2.2 0)), (1, .int x1), (2, .int x2)]) hx hb dX12_figureOf_3 hl (by decide) rfl (fun ls hl => ?_)
  exact k_X12_figureOf_5 C hK hW (lv_sub hl [2, 4, 1, 0] rfl) hq
theorem c_X12_figureOf (l : Launch) (G : wG) (h : hp) (x1 : Int32) (x2 : Int32) (Q : Int32 → Prop) (hq : w_X12_figureOf h x1 x2 Q) : ctI l SM G yX12_figureOf wUX12_figureOf rmX12_figureOf h [.ref (G.2.2 0), .int x1, .int x2] (fun r9 h9 => h9 = h ∧ Q r9) := by
  refine k_start (cc := cX12_figureOf) (maxL := 5) (rt := (some .int)) (own := RX12) (by decide +kernel) rfl rfl (Nat.le_of_ble_eq_true rfl) ?_
  intro p e s m below meth c ls C hK hW hl
  exact k_X12_figureOf_0 C hK hW hl hq
theorem k_X12_worldComes_b16 {Q : Int64 → Prop} {X16 : Int64 × Int32 → Prop} {x1 : Int32} {x2 : Int64} {h : hp} (C : kC p s m args meth c cX12_worldComes 7 (some .long) RX12 wUX12_worldComes) (hK : kK G s) (hX16 : ∀ (x4 : Int64) (x6 : Int32) (H : Heap) (locs : List Loc) (ls : Array Slot), kW SM G h (aS SM G) s H locs → lv_has ls 7 [(0, .ref (G.2.2 0)), (1, .int x1), (2, .long x2), (4, .long x4), (6, .int x6)] → X16 (x4, x6) → W p l e rmX12_worldComes s m args below meth c H locs 0 0 (MQ below (va_Ql (fun r9 h9 => h9 = h ∧ Q r9) (kB SM G) (aS SM G)) args s 0 0 (aS SM G)) (F0 m 16 ls [])) {x4 : Int64} {x6 : Int32} {H : Heap} {locs : List Loc} {ls : Array Slot} (hW : kW SM G h (aS SM G) s H locs) (hl : lv_has ls 7 [(0, .ref (G.2.2 0)), (1, .int x1), (2, .long x2), (4, .long x4), (6, .int x6)]) (hq : w_X12_worldComes_b16 Q x1 x2 h X16 x4 x6) : W p l e rmX12_worldComes s m args below meth c H locs 0 0 (MQ below (va_Ql (fun r9 h9 => h9 = h ∧ Q r9) (kB SM G) (aS SM G)) args s 0 0 (aS SM G)) (F0 m 16 ls []) := by
  have hx := C.1
  have hb := C.2.1
  unfold w_X12_worldComes_b16 at hq
  refine lv_iload hx hb dX12_worldComes_16 (lv_at hl 4 rfl) ?_
  refine lv_if_lt (tgt := 42) hx hb dX12_worldComes_18 (by decide) (fun c2 => ?_) (fun c2 => ?_)
  · have hq := hq.1 c2
    refine lv_lload hx hb dX12_worldComes_42 (lv_at hl 3 rfl) ?_
    exact k_lret rfl C hW dX12_worldComes_44 ⟨rfl, hq⟩
  · have hq := hq.2 c2
    refine lv_lload hx hb dX12_worldComes_21 (lv_at hl 3 rfl) ?_
    refine lv_lload_n hx hb dX12_worldComes_23 rfl (lv_at hl 2 rfl) ?_
    refine lv_lmul hx hb dX12_worldComes_24 ?_
    refine lv_aload_n hx hb dX12_worldComes_25 rfl (lv_at hl 0 rfl) ?_
    refine lv_iload_n hx hb dX12_worldComes_26 rfl (lv_at hl 1 rfl) ?_
    refine lv_iload hx hb dX12_worldComes_27 (lv_at hl 4 rfl) ?_
    refine k_ci hW (va_runV (As := [.int x1, .int x6]) (rest := [.long (x4 * x2)]) (k_fix C) (c_X12_figureOf l G h x1 x6 _ hq) (cwV 2 C.2.2.2.2.2.1 (gU_V mw896 mw897 mw898 mw5 mw899) rfl rfl rfl (by decide +kernel) ⟨Nat.le_of_ble_eq_true rfl, Nat.le_of_ble_eq_true rfl⟩) (k_preV hK hW (shM_lt (rfl : shM 0 = 12) (by decide)) (ceM_12 (rfl : shM 0 = 12)) (q := (RX12, TX12, 73)) rfl) rfl rfl hl.1 rfl (lv_room (Nat.le_of_ble_eq_true rfl)) dX12_worldComes_29 ⟨Nat.le_refl 0, Nat.le_refl 0⟩) (fun r3 h4 H locs hq hW => ?_)
    rw [hq.1] at hW
    have hq := hq.2
    refine lv_i2l (v := r3.toInt64) hx hb dX12_worldComes_32 rfl ?_
    refine lv_ladd hx hb dX12_worldComes_33 ?_
    refine lv_topl (fun x4_5 ex4_5 => ?_)
    have hq := hq x4_5 ex4_5
    refine lv_lstore (lv' := [(4, .long x4_5), (0, .ref (G.2.2 0)), (1, .int x1), (2, .long x2), (6, .int x6)]) hx hb dX12_worldComes_34 hl (by decide) rfl (fun ls hl => ?_)
    obtain ⟨x6_6, ex6_6⟩ : ∃ y : Int32, y = x6 + (-1) := ⟨_, rfl⟩
    have hq := hq x6_6 ex6_6
    refine lv_iinc (v := x6_6) (lv' := [(6, .int x6_6), (4, .long x4_5), (0, .ref (G.2.2 0)), (1, .int x1), (2, .long x2)]) hx hb dX12_worldComes_36 hl (k := 4) rfl (by rw [ex6_6]; rfl) (by decide) rfl (fun ls hl => ?_)
    refine lv_goto (tgt := 16) hx hb dX12_worldComes_39 (by decide) ?_
    exact hX16 _ _ _ _ _ hW (lv_sub hl [2, 3, 4, 1, 0] rfl) hq
theorem k_X12_worldComes_16 {Q : Int64 → Prop} {x1 : Int32} {x2 : Int64} {h : hp} (C : kC p s m args meth c cX12_worldComes 7 (some .long) RX12 wUX12_worldComes) (hK : kK G s) {x4 : Int64} {x6 : Int32} {H : Heap} {locs : List Loc} {ls : Array Slot} (hW : kW SM G h (aS SM G) s H locs) (hl : lv_has ls 7 [(0, .ref (G.2.2 0)), (1, .int x1), (2, .long x2), (4, .long x4), (6, .int x6)]) (hq : w_X12_worldComes_16 Q x1 x2 h x4 x6) : W p l e rmX12_worldComes s m args below meth c H locs 0 0 (MQ below (va_Ql (fun r9 h9 => h9 = h ∧ Q r9) (kB SM G) (aS SM G)) args s 0 0 (aS SM G)) (F0 m 16 ls []) := by
  have key := hq (fun (q : Int64 × Int32) => ∀ (H : Heap) (locs : List Loc) (ls : Array Slot), kW SM G h (aS SM G) s H locs → lv_has ls 7 [(0, .ref (G.2.2 0)), (1, .int x1), (2, .long x2), (4, .long q.1), (6, .int q.2)] → W p l e rmX12_worldComes s m args below meth c H locs 0 0 (MQ below (va_Ql (fun r9 h9 => h9 = h ∧ Q r9) (kB SM G) (aS SM G)) args s 0 0 (aS SM G)) (F0 m 16 ls []))
    (fun q hq H locs ls hW hl => k_X12_worldComes_b16 C hK (fun x4 x6 H locs ls hW hl hI => hI H locs ls hW hl) hW hl hq)
  exact key _ _ _ hW hl
theorem k_X12_worldComes_0 {Q : Int64 → Prop} {x1 : Int32} {x2 : Int64} {h : hp} (C : kC p s m args meth c cX12_worldComes 7 (some .long) RX12 wUX12_worldComes) (hK : kK G s) {H : Heap} {locs : List Loc} {ls : Array Slot} (hW : kW SM G h (aS SM G) s H locs) (hl : lv_has ls 7 [(0, .ref (G.2.2 0)), (1, .int x1), (2, .long x2)]) (hq : w_X12_worldComes_0 Q x1 x2 h) : W p l e rmX12_worldComes s m args below meth c H locs 0 0 (MQ below (va_Ql (fun r9 h9 => h9 = h ∧ Q r9) (kB SM G) (aS SM G)) args s 0 0 (aS SM G)) (F0 m 0 ls []) := by
  have hx := C.1
  have hb := C.2.1
  unfold w_X12_worldComes_0 at hq
  refine lv_lconst (v := 0) hx hb dX12_worldComes_0 (by decide) ?_
  refine lv_lstore (lv' := [(4, .long 0), (0, .ref (G.2.2 0)), (1, .int x1), (2, .long x2)]) hx hb dX12_worldComes_1 hl (by decide) rfl (fun ls hl => ?_)
  refine lv_aload_n hx hb dX12_worldComes_3 rfl (lv_at hl 1 rfl) ?_
  refine gt12_32 C hK hW (rfl : shM 0 = 12) (List.mem_cons_of_mem _ mw282) (fun _ h9 => List.mem_cons_of_mem _ (inU_wsX120 _ h9)) dX12_worldComes_4 ?_
  refine lv_aload_n hx hb dX12_worldComes_7 rfl (lv_at hl 1 rfl) ?_
  refine gt12_18 C hK hW (rfl : shM 0 = 12) (List.mem_cons_of_mem _ mw610) (fun _ h9 => List.mem_cons_of_mem _ (inU_wsX120 _ h9)) dX12_worldComes_8 ?_
  refine k_iald C hK hW (shM_lt (rfl : shM 19 = 14) (by decide)) (ceM_14 (rfl : shM 19 = 14) (rfl : lnM 19 = 2)) hq.1 dX12_worldComes_11 ?_
  have hq := hq.2
  refine lv_iconst (v := 1) hx hb dX12_worldComes_12 (by decide) ?_
  refine lv_isub hx hb dX12_worldComes_13 ?_
  refine lv_topi (fun x6_1 ex6_1 => ?_)
  have hq := hq x6_1 ex6_1
  refine lv_istore (lv' := [(6, .int x6_1), (4, .long 0), (0, .ref (G.2.2 0)), (1, .int x1), (2, .long x2)]) hx hb dX12_worldComes_14 hl (by decide) rfl (fun ls hl => ?_)
  exact k_X12_worldComes_16 C hK hW (lv_sub hl [2, 3, 4, 1, 0] rfl) hq
theorem c_X12_worldComes (l : Launch) (G : wG) (h : hp) (x1 : Int32) (x2 : Int64) (Q : Int64 → Prop) (hq : w_X12_worldComes h x1 x2 Q) : ctL l SM G yX12_worldComes wUX12_worldComes rmX12_worldComes h [.ref (G.2.2 0), .int x1, .long x2] (fun r9 h9 => h9 = h ∧ Q r9) := by
  refine k_start (cc := cX12_worldComes) (maxL := 7) (rt := (some .long)) (own := RX12) (by decide +kernel) rfl rfl (Nat.le_of_ble_eq_true rfl) ?_
  intro p e s m below meth c ls C hK hW hl
  exact k_X12_worldComes_0 C hK hW hl hq
theorem k_X12_clears_b2 {Q : hp → Prop} {X2 : Int32 × hp → Prop} (C : kC p s m args meth c cX12_clears 2 none RX12 wUX12_clears) (hK : kK G s) (hX2 : ∀ (x1 : Int32) (h : hp) (H : Heap) (locs : List Loc) (ls : Array Slot), kW SM G h (aS SM G) s H locs → lv_has ls 2 [(0, .ref (G.2.2 0)), (1, .int x1)] → X2 (x1, h) → W p l e rmX12_clears s m args below meth c H locs 0 0 (MQ below (va_Qv Q (kB SM G) (aS SM G)) args s 0 0 (aS SM G)) (F0 m 2 ls [])) {x1 : Int32} {h : hp} {H : Heap} {locs : List Loc} {ls : Array Slot} (hW : kW SM G h (aS SM G) s H locs) (hl : lv_has ls 2 [(0, .ref (G.2.2 0)), (1, .int x1)]) (hq : w_X12_clears_b2 Q X2 x1 h) : W p l e rmX12_clears s m args below meth c H locs 0 0 (MQ below (va_Qv Q (kB SM G) (aS SM G)) args s 0 0 (aS SM G)) (F0 m 2 ls []) := by
  have hx := C.1
  have hb := C.2.1
  unfold w_X12_clears_b2 at hq
  refine lv_iload_n hx hb dX12_clears_2 rfl (lv_at hl 1 rfl) ?_
  refine lv_ldc (v := 32768) hx hb C.2.2.2.2.1 (C.2.2.2.2.2.1 _ (List.mem_cons_of_mem _ mw298)) dX12_clears_3 ?_
  refine lv_icmp_ge (tgt := 28) hx hb dX12_clears_5 (by decide) (fun c1 => ?_) (fun c1 => ?_)
  · have hq := hq.1 c1
    exact k_vret rfl C hW dX12_clears_28 hq
  · have hq := hq.2 c1
    refine lv_aload_n hx hb dX12_clears_8 rfl (lv_at hl 0 rfl) ?_
    refine gt12_52 C hK hW (rfl : shM 0 = 12) (List.mem_cons_of_mem _ mw300) (fun _ h9 => List.mem_cons_of_mem _ (inU_wsX120 _ h9)) dX12_clears_9 ?_
    refine lv_iload_n hx hb dX12_clears_12 rfl (lv_at hl 1 rfl) ?_
    refine lv_iconst (v := (-1)) hx hb dX12_clears_13 (by decide) ?_
    refine k_iast okM C hK hW (shM_lt (rfl : shM 35 = 14) (by decide)) (fun g9 => ceM_14 (rfl : shM 35 = 14) (rfl : lnM 35 = 32768)) hq.1 dX12_clears_14 (fun H locs hW => ?_)
    have hq := hq.2
    obtain ⟨h2, eh2⟩ : ∃ z : hp, z = sI h 35 (ix x1) (-1) := ⟨_, rfl⟩
    rw [← eh2] at hW
    have hq := hq h2 eh2
    refine lv_aload_n hx hb dX12_clears_15 rfl (lv_at hl 0 rfl) ?_
    refine gt12_53 C hK hW (rfl : shM 0 = 12) (List.mem_cons_of_mem _ mw301) (fun _ h9 => List.mem_cons_of_mem _ (inU_wsX120 _ h9)) dX12_clears_16 ?_
    refine lv_iload_n hx hb dX12_clears_19 rfl (lv_at hl 1 rfl) ?_
    refine lv_iconst (v := 0) hx hb dX12_clears_20 (by decide) ?_
    refine k_iast okM C hK hW (shM_lt (rfl : shM 36 = 14) (by decide)) (fun g9 => ceM_14 (rfl : shM 36 = 14) (rfl : lnM 36 = 32768)) hq.1 dX12_clears_21 (fun H locs hW => ?_)
    have hq := hq.2
    obtain ⟨h3, eh3⟩ : ∃ z : hp, z = sI h2 36 (ix x1) 0 := ⟨_, rfl⟩
    rw [← eh3] at hW
    have hq := hq h3 eh3
    obtain ⟨x1_4, ex1_4⟩ : ∃ y : Int32, y = x1 + 1 := ⟨_, rfl⟩
    have hq := hq x1_4 ex1_4
    refine lv_iinc (v := x1_4) (lv' := [(1, .int x1_4), (0, .ref (G.2.2 0))]) hx hb dX12_clears_22 hl (k := 1) rfl (by rw [ex1_4]; rfl) (by decide) rfl (fun ls hl => ?_)
    refine lv_goto (tgt := 2) hx hb dX12_clears_25 (by decide) ?_
    exact hX2 _ _ _ _ _ hW (lv_sub hl [1, 0] rfl) hq
theorem k_X12_clears_2 {Q : hp → Prop} (C : kC p s m args meth c cX12_clears 2 none RX12 wUX12_clears) (hK : kK G s) {x1 : Int32} {h : hp} {H : Heap} {locs : List Loc} {ls : Array Slot} (hW : kW SM G h (aS SM G) s H locs) (hl : lv_has ls 2 [(0, .ref (G.2.2 0)), (1, .int x1)]) (hq : w_X12_clears_2 Q x1 h) : W p l e rmX12_clears s m args below meth c H locs 0 0 (MQ below (va_Qv Q (kB SM G) (aS SM G)) args s 0 0 (aS SM G)) (F0 m 2 ls []) := by
  have key := hq (fun (q : Int32 × hp) => ∀ (H : Heap) (locs : List Loc) (ls : Array Slot), kW SM G q.2 (aS SM G) s H locs → lv_has ls 2 [(0, .ref (G.2.2 0)), (1, .int q.1)] → W p l e rmX12_clears s m args below meth c H locs 0 0 (MQ below (va_Qv Q (kB SM G) (aS SM G)) args s 0 0 (aS SM G)) (F0 m 2 ls []))
    (fun q hq H locs ls hW hl => k_X12_clears_b2 C hK (fun x1 h H locs ls hW hl hI => hI H locs ls hW hl) hW hl hq)
  exact key _ _ _ hW hl
theorem k_X12_clears_0 {Q : hp → Prop} {h : hp} (C : kC p s m args meth c cX12_clears 2 none RX12 wUX12_clears) (hK : kK G s) {H : Heap} {locs : List Loc} {ls : Array Slot} (hW : kW SM G h (aS SM G) s H locs) (hl : lv_has ls 2 [(0, .ref (G.2.2 0))]) (hq : w_X12_clears_0 Q h) : W p l e rmX12_clears s m args below meth c H locs 0 0 (MQ below (va_Qv Q (kB SM G) (aS SM G)) args s 0 0 (aS SM G)) (F0 m 0 ls []) := by
  have hx := C.1
  have hb := C.2.1
  unfold w_X12_clears_0 at hq
  refine lv_iconst (v := 0) hx hb dX12_clears_0 (by decide) ?_
  refine lv_istore_n (lv' := [(1, .int 0), (0, .ref (G.2.2 0))]) hx hb dX12_clears_1 rfl hl (by decide) rfl (fun ls hl => ?_)
  exact k_X12_clears_2 C hK hW (lv_sub hl [1, 0] rfl) hq
theorem c_X12_clears (l : Launch) (G : wG) (h : hp) (Q : hp → Prop) (hq : w_X12_clears h Q) : ctV l SM G yX12_clears wUX12_clears rmX12_clears h [.ref (G.2.2 0)] Q := by
  refine k_start (cc := cX12_clears) (maxL := 2) (rt := none) (own := RX12) (by decide +kernel) rfl rfl (Nat.le_of_ble_eq_true rfl) ?_
  intro p e s m below meth c ls C hK hW hl
  exact k_X12_clears_0 C hK hW hl hq
theorem k_X12_keyAt_52 {Q : Int32 → hp → Prop} {x1 : Int64} {x3 : Int32} {x4 : Int32} {h : hp} (C : kC p s m args meth c cX12_keyAt 5 (some .int) RX12 wUX12_keyAt) (hK : kK G s) {H : Heap} {locs : List Loc} {ls : Array Slot} (hW : kW SM G h (aS SM G) s H locs) (hl : lv_has ls 5 [(0, .ref (G.2.2 0)), (1, .long x1), (3, .int x3), (4, .int x4)]) (hq : w_X12_keyAt_52 Q x1 x3 x4 h) : W p l e rmX12_keyAt s m args below meth c H locs 0 0 (MQ below (va_Qi Q (kB SM G) (aS SM G)) args s 0 0 (aS SM G)) (F0 m 52 ls []) := by
  have hx := C.1
  have hb := C.2.1
  unfold w_X12_keyAt_52 at hq
  refine lv_aload_n hx hb dX12_keyAt_52 rfl (lv_at hl 0 rfl) ?_
  refine gt12_52 C hK hW (rfl : shM 0 = 12) (List.mem_cons_of_mem _ mw300) (fun _ h9 => List.mem_cons_of_mem _ (inU_wsX120 _ h9)) dX12_keyAt_53 ?_
  refine lv_iload hx hb dX12_keyAt_56 (lv_at hl 3 rfl) ?_
  refine k_iald C hK hW (shM_lt (rfl : shM 35 = 14) (by decide)) (ceM_14 (rfl : shM 35 = 14) (rfl : lnM 35 = 32768)) hq.1 dX12_keyAt_58 ?_
  have hq := hq.2
  refine lv_iconst (v := (-1)) hx hb dX12_keyAt_59 (by decide) ?_
  refine lv_icmp_ne (tgt := 79) hx hb dX12_keyAt_60 (by decide) (fun c5 => ?_) (fun c5 => ?_)
  · have hq := hq.1 c5
    refine lv_iload hx hb dX12_keyAt_79 (lv_at hl 3 rfl) ?_
    exact k_iret rfl C hW dX12_keyAt_81 hq
  · have hq := hq.2 c5
    refine lv_aload_n hx hb dX12_keyAt_63 rfl (lv_at hl 0 rfl) ?_
    refine gt12_52 C hK hW (rfl : shM 0 = 12) (List.mem_cons_of_mem _ mw300) (fun _ h9 => List.mem_cons_of_mem _ (inU_wsX120 _ h9)) dX12_keyAt_64 ?_
    refine lv_iload hx hb dX12_keyAt_67 (lv_at hl 3 rfl) ?_
    refine lv_iload_n hx hb dX12_keyAt_69 rfl (lv_at hl 2 rfl) ?_
    refine k_iast okM C hK hW (shM_lt (rfl : shM 35 = 14) (by decide)) (fun g9 => ceM_14 (rfl : shM 35 = 14) (rfl : lnM 35 = 32768)) hq.1 dX12_keyAt_70 (fun H locs hW => ?_)
    have hq := hq.2
    obtain ⟨h6, eh6⟩ : ∃ z : hp, z = sI h 35 (ix x4) x3 := ⟨_, rfl⟩
    rw [← eh6] at hW
    have hq := hq h6 eh6
    refine lv_aload_n hx hb dX12_keyAt_71 rfl (lv_at hl 0 rfl) ?_
    refine gt12_51 C hK hW (rfl : shM 0 = 12) (List.mem_cons_of_mem _ mw299) (fun _ h9 => List.mem_cons_of_mem _ (inU_wsX120 _ h9)) dX12_keyAt_72 ?_
    refine lv_iload hx hb dX12_keyAt_75 (lv_at hl 3 rfl) ?_
    refine lv_lload_n hx hb dX12_keyAt_77 rfl (lv_at hl 1 rfl) ?_
    refine k_last okM C hK hW (shM_lt (rfl : shM 34 = 15) (by decide)) (fun g9 => ceM_15 (rfl : shM 34 = 15) (rfl : lnM 34 = 32768)) hq.1 dX12_keyAt_78 (fun H locs hW => ?_)
    have hq := hq.2
    obtain ⟨h7, eh7⟩ : ∃ z : hp, z = sL h6 34 (ix x4) x1 := ⟨_, rfl⟩
    rw [← eh7] at hW
    have hq := hq h7 eh7
    refine lv_iload hx hb dX12_keyAt_79 (lv_at hl 3 rfl) ?_
    exact k_iret rfl C hW dX12_keyAt_81 hq
theorem k_X12_keyAt_b17 {Q : Int32 → hp → Prop} {X17 : Int32 → Prop} {x1 : Int64} {x3 : Int32} {h : hp} (C : kC p s m args meth c cX12_keyAt 5 (some .int) RX12 wUX12_keyAt) (hK : kK G s) (hX17 : ∀ (x4 : Int32) (H : Heap) (locs : List Loc) (ls : Array Slot), kW SM G h (aS SM G) s H locs → lv_has ls 5 [(0, .ref (G.2.2 0)), (1, .long x1), (3, .int x3), (4, .int x4)] → X17 x4 → W p l e rmX12_keyAt s m args below meth c H locs 0 0 (MQ below (va_Qi Q (kB SM G) (aS SM G)) args s 0 0 (aS SM G)) (F0 m 17 ls [])) {x4 : Int32} {H : Heap} {locs : List Loc} {ls : Array Slot} (hW : kW SM G h (aS SM G) s H locs) (hl : lv_has ls 5 [(0, .ref (G.2.2 0)), (1, .long x1), (3, .int x3), (4, .int x4)]) (hq : w_X12_keyAt_b17 Q x1 x3 h X17 x4) : W p l e rmX12_keyAt s m args below meth c H locs 0 0 (MQ below (va_Qi Q (kB SM G) (aS SM G)) args s 0 0 (aS SM G)) (F0 m 17 ls []) := by
  have hx := C.1
  have hb := C.2.1
  unfold w_X12_keyAt_b17 at hq
  refine lv_aload_n hx hb dX12_keyAt_17 rfl (lv_at hl 0 rfl) ?_
  refine gt12_52 C hK hW (rfl : shM 0 = 12) (List.mem_cons_of_mem _ mw300) (fun _ h9 => List.mem_cons_of_mem _ (inU_wsX120 _ h9)) dX12_keyAt_18 ?_
  refine lv_iload hx hb dX12_keyAt_21 (lv_at hl 3 rfl) ?_
  refine k_iald C hK hW (shM_lt (rfl : shM 35 = 14) (by decide)) (ceM_14 (rfl : shM 35 = 14) (rfl : lnM 35 = 32768)) hq.1 dX12_keyAt_23 ?_
  have hq := hq.2
  refine lv_iconst (v := (-1)) hx hb dX12_keyAt_24 (by decide) ?_
  refine lv_icmp_eq (tgt := 52) hx hb dX12_keyAt_25 (by decide) (fun c2 => ?_) (fun c2 => ?_)
  · have hq := hq.1 c2
    exact k_X12_keyAt_52 C hK hW (lv_sub hl [0, 1, 2, 3] rfl) hq
  · have hq := hq.2 c2
    refine lv_aload_n hx hb dX12_keyAt_28 rfl (lv_at hl 0 rfl) ?_
    refine gt12_51 C hK hW (rfl : shM 0 = 12) (List.mem_cons_of_mem _ mw299) (fun _ h9 => List.mem_cons_of_mem _ (inU_wsX120 _ h9)) dX12_keyAt_29 ?_
    refine lv_iload hx hb dX12_keyAt_32 (lv_at hl 3 rfl) ?_
    refine k_lald C hK hW (shM_lt (rfl : shM 34 = 15) (by decide)) (ceM_15 (rfl : shM 34 = 15) (rfl : lnM 34 = 32768)) hq.1 dX12_keyAt_34 ?_
    have hq := hq.2
    refine lv_lload_n hx hb dX12_keyAt_35 rfl (lv_at hl 1 rfl) ?_
    refine W.lcmp hx hb dX12_keyAt_36 ?_
    refine lv_if_eq (tgt := 52) hx hb dX12_keyAt_37 (by decide) (fun c3 => ?_) (fun c3 => ?_)
    · have hq := hq.1 ((lg_cmp_eq _ _).mp c3)
      exact k_X12_keyAt_52 C hK hW (lv_sub hl [0, 1, 2, 3] rfl) hq
    · have hq := hq.2 (fun z => c3 ((lg_cmp_eq _ _).mpr z))
      refine lv_iload hx hb dX12_keyAt_40 (lv_at hl 3 rfl) ?_
      refine lv_iconst (v := 1) hx hb dX12_keyAt_42 (by decide) ?_
      refine lv_iadd hx hb dX12_keyAt_43 ?_
      refine lv_ldc (v := 32768) hx hb C.2.2.2.2.1 (C.2.2.2.2.2.1 _ (List.mem_cons_of_mem _ mw298)) dX12_keyAt_44 ?_
      refine k_irem hx hb dX12_keyAt_46 (by decide) ?_
      refine lv_topi (fun x4_4 ex4_4 => ?_)
      have hq := hq x4_4 ex4_4
      refine lv_istore (lv' := [(4, .int x4_4), (0, .ref (G.2.2 0)), (1, .long x1), (3, .int x3)]) hx hb dX12_keyAt_47 hl (by decide) rfl (fun ls hl => ?_)
      refine lv_goto (tgt := 17) hx hb dX12_keyAt_49 (by decide) ?_
      exact hX17 _ _ _ _ hW (lv_sub hl [1, 2, 3, 0] rfl) hq
theorem k_X12_keyAt_17 {Q : Int32 → hp → Prop} {x1 : Int64} {x3 : Int32} {h : hp} (C : kC p s m args meth c cX12_keyAt 5 (some .int) RX12 wUX12_keyAt) (hK : kK G s) {x4 : Int32} {H : Heap} {locs : List Loc} {ls : Array Slot} (hW : kW SM G h (aS SM G) s H locs) (hl : lv_has ls 5 [(0, .ref (G.2.2 0)), (1, .long x1), (3, .int x3), (4, .int x4)]) (hq : w_X12_keyAt_17 Q x1 x3 h x4) : W p l e rmX12_keyAt s m args below meth c H locs 0 0 (MQ below (va_Qi Q (kB SM G) (aS SM G)) args s 0 0 (aS SM G)) (F0 m 17 ls []) := by
  have key := hq (fun (q : Int32) => ∀ (H : Heap) (locs : List Loc) (ls : Array Slot), kW SM G h (aS SM G) s H locs → lv_has ls 5 [(0, .ref (G.2.2 0)), (1, .long x1), (3, .int x3), (4, .int q)] → W p l e rmX12_keyAt s m args below meth c H locs 0 0 (MQ below (va_Qi Q (kB SM G) (aS SM G)) args s 0 0 (aS SM G)) (F0 m 17 ls []))
    (fun q hq H locs ls hW hl => k_X12_keyAt_b17 C hK (fun x4 H locs ls hW hl hI => hI H locs ls hW hl) hW hl hq)
  exact key _ _ _ hW hl
theorem k_X12_keyAt_0 {Q : Int32 → hp → Prop} {x1 : Int64} {x3 : Int32} {h : hp} (C : kC p s m args meth c cX12_keyAt 5 (some .int) RX12 wUX12_keyAt) (hK : kK G s) {H : Heap} {locs : List Loc} {ls : Array Slot} (hW : kW SM G h (aS SM G) s H locs) (hl : lv_has ls 5 [(0, .ref (G.2.2 0)), (1, .long x1), (3, .int x3)]) (hq : w_X12_keyAt_0 Q x1 x3 h) : W p l e rmX12_keyAt s m args below meth c H locs 0 0 (MQ below (va_Qi Q (kB SM G) (aS SM G)) args s 0 0 (aS SM G)) (F0 m 0 ls []) := by
  have hx := C.1
  have hb := C.2.1
  unfold w_X12_keyAt_0 at hq
  refine lv_lload_n hx hb dX12_keyAt_0 rfl (lv_at hl 1 rfl) ?_
  refine lv_ldc2 (v := 2654435761) hx hb C.2.2.2.2.1 (C.2.2.2.2.2.1 _ (List.mem_cons_of_mem _ mw904)) dX12_keyAt_1 ?_
  refine lv_lmul hx hb dX12_keyAt_4 ?_
  refine lv_bipush (v := 13) hx hb dX12_keyAt_5 (by decide) ?_
  refine lv_lushr (v := lushr (x1 * 2654435761) 13) hx hb dX12_keyAt_7 rfl ?_
  refine lv_lload_n hx hb dX12_keyAt_8 rfl (lv_at hl 1 rfl) ?_
  refine lv_lxor hx hb dX12_keyAt_9 ?_
  refine lv_ldc2 (v := 32767) hx hb C.2.2.2.2.1 (C.2.2.2.2.2.1 _ (List.mem_cons_of_mem _ mw905)) dX12_keyAt_10 ?_
  refine lv_land hx hb dX12_keyAt_13 ?_
  refine lv_l2i (v := (((lushr (x1 * 2654435761) 13) ^^^ x1) &&& 32767).toInt32) hx hb dX12_keyAt_14 rfl ?_
  refine lv_topi (fun x4_1 ex4_1 => ?_)
  have hq := hq x4_1 ex4_1
  refine lv_istore (lv' := [(4, .int x4_1), (0, .ref (G.2.2 0)), (1, .long x1), (3, .int x3)]) hx hb dX12_keyAt_15 hl (by decide) rfl (fun ls hl => ?_)
  exact k_X12_keyAt_17 C hK hW (lv_sub hl [1, 2, 3, 0] rfl) hq
theorem c_X12_keyAt (l : Launch) (G : wG) (h : hp) (x1 : Int64) (x3 : Int32) (Q : Int32 → hp → Prop) (hq : w_X12_keyAt h x1 x3 Q) : ctI l SM G yX12_keyAt wUX12_keyAt rmX12_keyAt h [.ref (G.2.2 0), .long x1, .int x3] Q := by
  refine k_start (cc := cX12_keyAt) (maxL := 5) (rt := (some .int)) (own := RX12) (by decide +kernel) rfl rfl (Nat.le_of_ble_eq_true rfl) ?_
  intro p e s m below meth c ls C hK hW hl
  exact k_X12_keyAt_0 C hK hW hl hq
theorem k_X12_clashes_b6 {Q : Int32 → hp → Prop} {X6 : Int32 × hp → Prop} {x1 : Int32} (C : kC p s m args meth c cX12_clashes 4 (some .boolean) RX12 wUX12_clashes) (hK : kK G s) (hX6 : ∀ (x2 : Int32) (h : hp) (H : Heap) (locs : List Loc) (ls : Array Slot), kW SM G h (aS SM G) s H locs → lv_has ls 4 [(0, .ref (G.2.2 0)), (1, .int x1), (2, .int x2)] → X6 (x2, h) → W p l e rmX12_clashes s m args below meth c H locs 0 0 (MQ below (va_Qi Q (kB SM G) (aS SM G)) args s 0 0 (aS SM G)) (F0 m 6 ls [])) {x2 : Int32} {h : hp} {H : Heap} {locs : List Loc} {ls : Array Slot} (hW : kW SM G h (aS SM G) s H locs) (hl : lv_has ls 4 [(0, .ref (G.2.2 0)), (1, .int x1), (2, .int x2)]) (hq : w_X12_clashes_b6 Q x1 X6 x2 h) : W p l e rmX12_clashes s m args below meth c H locs 0 0 (MQ below (va_Qi Q (kB SM G) (aS SM G)) args s 0 0 (aS SM G)) (F0 m 6 ls []) := by
  have hx := C.1
  have hb := C.2.1
  unfold w_X12_clashes_b6 at hq
  refine lv_iload_n hx hb dX12_clashes_6 rfl (lv_at hl 2 rfl) ?_
  refine lv_aload_n hx hb dX12_clashes_7 rfl (lv_at hl 0 rfl) ?_
  refine k_ci hW (va_runV (As := []) (rest := [.int x2]) (k_fix C) (c_X12_worldAll l G h _ hq) (cwV 0 C.2.2.2.2.2.1 (gU_V mw888 mw889 mw890 mw5 mw891) rfl rfl rfl (by decide +kernel) ⟨Nat.le_of_ble_eq_true rfl, Nat.le_of_ble_eq_true rfl⟩) (k_preV hK hW (shM_lt (rfl : shM 0 = 12) (by decide)) (ceM_12 (rfl : shM 0 = 12)) (q := (RX12, TX12, 73)) rfl) rfl rfl hl.1 rfl (lv_room (Nat.le_of_ble_eq_true rfl)) dX12_clashes_8 ⟨Nat.le_refl 0, Nat.le_refl 0⟩) (fun r2 h3 H locs hq hW => ?_)
  rw [hq.1] at hW
  have hq := hq.2
  refine lv_icmp_ge (tgt := 58) hx hb dX12_clashes_11 (by decide) (fun c4 => ?_) (fun c4 => ?_)
  · have hq := hq.1 c4
    refine lv_iconst (v := 0) hx hb dX12_clashes_58 (by decide) ?_
    exact k_zret rfl isZ_0.1 C hW dX12_clashes_59 hq
  · have hq := hq.2 c4
    refine lv_aload_n hx hb dX12_clashes_14 rfl (lv_at hl 0 rfl) ?_
    refine gt12_52 C hK hW (rfl : shM 0 = 12) (List.mem_cons_of_mem _ mw300) (fun _ h9 => List.mem_cons_of_mem _ (inU_wsX120 _ h9)) dX12_clashes_15 ?_
    refine lv_aload_n hx hb dX12_clashes_18 rfl (lv_at hl 0 rfl) ?_
    refine lv_aload_n hx hb dX12_clashes_19 rfl (lv_at hl 0 rfl) ?_
    refine lv_iload_n hx hb dX12_clashes_20 rfl (lv_at hl 2 rfl) ?_
    refine lv_iload_n hx hb dX12_clashes_21 rfl (lv_at hl 1 rfl) ?_
    refine lv_i2l (v := x1.toInt64) hx hb dX12_clashes_22 rfl ?_
    refine k_cl hW (va_runV (As := [.int x2, .long (x1.toInt64)]) (rest := [.ref (G.2.2 0), .ref (G.2.2 35)]) (k_fix C) (c_X12_worldComes l G h x2 (x1.toInt64) _ hq) (cwV 2 C.2.2.2.2.2.1 (gU_V mw892 mw893 mw894 mw5 mw895) rfl rfl rfl (by decide +kernel) ⟨Nat.le_of_ble_eq_true rfl, Nat.le_of_ble_eq_true rfl⟩) (k_preV hK hW (shM_lt (rfl : shM 0 = 12) (by decide)) (ceM_12 (rfl : shM 0 = 12)) (q := (RX12, TX12, 73)) rfl) rfl rfl hl.1 rfl (lv_room (Nat.le_of_ble_eq_true rfl)) dX12_clashes_23 ⟨Nat.le_refl 0, Nat.le_refl 0⟩) (fun r5 h6 H locs hq hW => ?_)
    rw [hq.1] at hW
    have hq := hq.2
    refine lv_iload_n hx hb dX12_clashes_26 rfl (lv_at hl 2 rfl) ?_
    refine k_ci hW (va_runV (As := [.long r5, .int x2]) (rest := [.ref (G.2.2 35)]) (k_fix C) (c_X12_keyAt l G h r5 x2 _ hq) (cwV 2 C.2.2.2.2.2.1 (gU_V mw900 mw901 mw902 mw5 mw903) rfl rfl rfl (by decide +kernel) ⟨Nat.le_of_ble_eq_true rfl, Nat.le_of_ble_eq_true rfl⟩) (k_preV hK hW (shM_lt (rfl : shM 0 = 12) (by decide)) (ceM_12 (rfl : shM 0 = 12)) (q := (RX12, TX12, 73)) rfl) rfl rfl hl.1 rfl (lv_room (Nat.le_of_ble_eq_true rfl)) dX12_clashes_27 ⟨Nat.le_refl 0, Nat.le_refl 0⟩) (fun r8 h7 H locs hq hW => ?_)
    refine k_iald C hK hW (shM_lt (rfl : shM 35 = 14) (by decide)) (ceM_14 (rfl : shM 35 = 14) (rfl : lnM 35 = 32768)) hq.1 dX12_clashes_30 ?_
    have hq := hq.2
    refine lv_topi (fun x3_9 ex3_9 => ?_)
    have hq := hq x3_9 ex3_9
    refine lv_istore_n (lv' := [(3, .int x3_9), (0, .ref (G.2.2 0)), (1, .int x1), (2, .int x2)]) hx hb dX12_clashes_31 rfl hl (by decide) rfl (fun ls hl => ?_)
    refine lv_iload_n hx hb dX12_clashes_32 rfl (lv_at hl 0 rfl) ?_
    refine lv_iload_n hx hb dX12_clashes_33 rfl (lv_at hl 3 rfl) ?_
    refine lv_icmp_ne (tgt := 40) hx hb dX12_clashes_34 (by decide) (fun c10 => ?_) (fun c10 => ?_)
    · have hq := hq.1 c10
      refine lv_aload_n hx hb dX12_clashes_40 rfl (lv_at hl 1 rfl) ?_
      refine lv_iload_n hx hb dX12_clashes_41 rfl (lv_at hl 0 rfl) ?_
      refine pt12_54 C hK hW (rfl : shM 0 = 12) (List.mem_cons_of_mem _ mw879) (fun _ h9 => List.mem_cons_of_mem _ (inU_wsX120 _ h9)) dX12_clashes_42 (fun h11 H locs eh11 hW => ?_)
      have hq := hq h11 eh11
      refine lv_aload_n hx hb dX12_clashes_45 rfl (lv_at hl 1 rfl) ?_
      refine lv_iload_n hx hb dX12_clashes_46 rfl (lv_at hl 3 rfl) ?_
      refine pt12_55 C hK hW (rfl : shM 0 = 12) (List.mem_cons_of_mem _ mw878) (fun _ h9 => List.mem_cons_of_mem _ (inU_wsX120 _ h9)) dX12_clashes_47 (fun h12 H locs eh12 hW => ?_)
      have hq := hq h12 eh12
      refine lv_iconst (v := 1) hx hb dX12_clashes_50 (by decide) ?_
      exact k_zret rfl isZ_1.1 C hW dX12_clashes_51 hq
    · have hq := hq.2 c10
      refine lv_goto (tgt := 52) hx hb dX12_clashes_37 (by decide) ?_
      obtain ⟨x2_13, ex2_13⟩ : ∃ y : Int32, y = x2 + 1 := ⟨_, rfl⟩
      have hq := hq x2_13 ex2_13
      refine lv_iinc (v := x2_13) (lv' := [(2, .int x2_13), (3, .int x3_9), (0, .ref (G.2.2 0)), (1, .int x1)]) hx hb dX12_clashes_52 hl (k := 3) rfl (by rw [ex2_13]; rfl) (by decide) rfl (fun ls hl => ?_)
      refine lv_goto (tgt := 6) hx hb dX12_clashes_55 (by decide) ?_
      exact hX6 _ _ _ _ _ hW (lv_sub hl [2, 3, 0] rfl) hq
theorem k_X12_clashes_6 {Q : Int32 → hp → Prop} {x1 : Int32} (C : kC p s m args meth c cX12_clashes 4 (some .boolean) RX12 wUX12_clashes) (hK : kK G s) {x2 : Int32} {h : hp} {H : Heap} {locs : List Loc} {ls : Array Slot} (hW : kW SM G h (aS SM G) s H locs) (hl : lv_has ls 4 [(0, .ref (G.2.2 0)), (1, .int x1), (2, .int x2)]) (hq : w_X12_clashes_6 Q x1 x2 h) : W p l e rmX12_clashes s m args below meth c H locs 0 0 (MQ below (va_Qi Q (kB SM G) (aS SM G)) args s 0 0 (aS SM G)) (F0 m 6 ls []) := by
  have key := hq (fun (q : Int32 × hp) => ∀ (H : Heap) (locs : List Loc) (ls : Array Slot), kW SM G q.2 (aS SM G) s H locs → lv_has ls 4 [(0, .ref (G.2.2 0)), (1, .int x1), (2, .int q.1)] → W p l e rmX12_clashes s m args below meth c H locs 0 0 (MQ below (va_Qi Q (kB SM G) (aS SM G)) args s 0 0 (aS SM G)) (F0 m 6 ls []))
    (fun q hq H locs ls hW hl => k_X12_clashes_b6 C hK (fun x2 h H locs ls hW hl hI => hI H locs ls hW hl) hW hl hq)
  exact key _ _ _ hW hl
theorem k_X12_clashes_0 {Q : Int32 → hp → Prop} {x1 : Int32} {h : hp} (C : kC p s m args meth c cX12_clashes 4 (some .boolean) RX12 wUX12_clashes) (hK : kK G s) {H : Heap} {locs : List Loc} {ls : Array Slot} (hW : kW SM G h (aS SM G) s H locs) (hl : lv_has ls 4 [(0, .ref (G.2.2 0)), (1, .int x1)]) (hq : w_X12_clashes_0 Q x1 h) : W p l e rmX12_clashes s m args below meth c H locs 0 0 (MQ below (va_Qi Q (kB SM G) (aS SM G)) args s 0 0 (aS SM G)) (F0 m 0 ls []) := by
  have hx := C.1
  have hb := C.2.1
  unfold w_X12_clashes_0 at hq
  refine lv_aload_n hx hb dX12_clashes_0 rfl (lv_at hl 0 rfl) ?_
  refine k_cv hW (va_runV (As := []) (rest := []) (k_fix C) (c_X12_clears l G h _ hq) (cwV 0 C.2.2.2.2.2.1 (gU_V mw884 mw885 mw886 mw5 mw887) rfl rfl rfl (by decide +kernel) ⟨Nat.le_of_ble_eq_true rfl, Nat.le_of_ble_eq_true rfl⟩) (k_preV hK hW (shM_lt (rfl : shM 0 = 12) (by decide)) (ceM_12 (rfl : shM 0 = 12)) (q := (RX12, TX12, 73)) rfl) rfl rfl hl.1 rfl (lv_room (Nat.le_of_ble_eq_true rfl)) dX12_clashes_1 ⟨Nat.le_refl 0, Nat.le_refl 0⟩) (fun h1 H locs hq hW => ?_)
  refine lv_iconst (v := 0) hx hb dX12_clashes_4 (by decide) ?_
  refine lv_istore_n (lv' := [(2, .int 0), (0, .ref (G.2.2 0)), (1, .int x1)]) hx hb dX12_clashes_5 rfl hl (by decide) rfl (fun ls hl => ?_)
  exact k_X12_clashes_6 C hK hW (lv_sub hl [1, 2, 0] rfl) hq
theorem c_X12_clashes (l : Launch) (G : wG) (h : hp) (x1 : Int32) (Q : Int32 → hp → Prop) (hq : w_X12_clashes h x1 Q) : ctI l SM G yX12_clashes wUX12_clashes rmX12_clashes h [.ref (G.2.2 0), .int x1] Q := by
  refine k_start (cc := cX12_clashes) (maxL := 4) (rt := (some .boolean)) (own := RX12) (by decide +kernel) rfl rfl (Nat.le_of_ble_eq_true rfl) ?_
  intro p e s m below meth c ls C hK hW hl
  exact k_X12_clashes_0 C hK hW hl hq
theorem k_X12_clash_0 {Q : Int32 → hp → Prop} {x1 : Int32} {x2 : Int32} {h : hp} (C : kC p s m args meth c cX12_clash 3 (some .int) RX12 wUX12_clash) (hK : kK G s) {H : Heap} {locs : List Loc} {ls : Array Slot} (hW : kW SM G h (aS SM G) s H locs) (hl : lv_has ls 3 [(0, .ref (G.2.2 0)), (1, .int x1), (2, .int x2)]) (hq : w_X12_clash_0 Q x1 x2 h) : W p l e rmX12_clash s m args below meth c H locs 0 0 (MQ below (va_Qi Q (kB SM G) (aS SM G)) args s 0 0 (aS SM G)) (F0 m 0 ls []) := by
  have hx := C.1
  have hb := C.2.1
  unfold w_X12_clash_0 at hq
  refine lv_iload_n hx hb dX12_clash_0 rfl (lv_at hl 1 rfl) ?_
  refine lv_i2l (v := x1.toInt64) hx hb dX12_clash_1 rfl ?_
  refine lv_lconst (v := 0) hx hb dX12_clash_2 (by decide) ?_
  refine lv_ldc2 (v := 999) hx hb C.2.2.2.2.1 (C.2.2.2.2.2.1 _ (List.mem_cons_of_mem _ mw791)) dX12_clash_3 ?_
  refine k_ci hW (va_runS (As := [.long (x1.toInt64), .long 0, .long 999]) (rest := []) (k_fix C) (c_X12_in l G h (x1.toInt64) 0 999 _ hq) (va_cwS 3 C.2.2.2.2.2.1 (gU_S mw762 mw763 mw5 mw764) rfl rfl rfl (by decide +kernel) ⟨Nat.le_of_ble_eq_true rfl, Nat.le_of_ble_eq_true rfl⟩) (k_preS hK hW) rfl rfl hl.1 rfl (lv_room (Nat.le_of_ble_eq_true rfl)) dX12_clash_6 ⟨Nat.le_refl 0, Nat.le_refl 0⟩) (fun r1 h2 H locs hq hW => ?_)
  rw [hq.1] at hW
  have hq := hq.2
  refine lv_if_ne (tgt := 14) hx hb dX12_clash_9 (by decide) (fun c3 => ?_) (fun c3 => ?_)
  · have hq := hq.1 c3
    refine lv_aload_n hx hb dX12_clash_14 rfl (lv_at hl 0 rfl) ?_
    refine lv_iload_n hx hb dX12_clash_15 rfl (lv_at hl 1 rfl) ?_
    refine k_ci hW (va_runV (As := [.int x1]) (rest := []) (k_fix C) (c_X12_clashes l G h x1 _ hq) (cwV 1 C.2.2.2.2.2.1 (gU_V mw880 mw881 mw882 mw5 mw883) rfl rfl rfl (by decide +kernel) ⟨Nat.le_of_ble_eq_true rfl, Nat.le_of_ble_eq_true rfl⟩) (k_preV hK hW (shM_lt (rfl : shM 0 = 12) (by decide)) (ceM_12 (rfl : shM 0 = 12)) (q := (RX12, TX12, 73)) rfl) rfl rfl hl.1 rfl (lv_room (Nat.le_of_ble_eq_true rfl)) dX12_clash_16 ⟨Nat.le_refl 0, Nat.le_refl 0⟩) (fun r5 h4 H locs hq hW => ?_)
    refine lv_if_ne (tgt := 25) hx hb dX12_clash_19 (by decide) (fun c6 => ?_) (fun c6 => ?_)
    · have hq := hq.1 c6
      refine lv_iload_n hx hb dX12_clash_25 rfl (lv_at hl 2 rfl) ?_
      refine lv_if_eq (tgt := 36) hx hb dX12_clash_26 (by decide) (fun c7 => ?_) (fun c7 => ?_)
      · have hq := hq.1 c7
        refine lv_aload_n hx hb dX12_clash_36 rfl (lv_at hl 0 rfl) ?_
        refine gt12_54 C hK hW (rfl : shM 0 = 12) (List.mem_cons_of_mem _ mw879) (fun _ h9 => List.mem_cons_of_mem _ (inU_wsX120 _ h9)) dX12_clash_37 ?_
        exact k_iret rfl C hW dX12_clash_40 hq
      · have hq := hq.2 c7
        refine lv_aload_n hx hb dX12_clash_29 rfl (lv_at hl 0 rfl) ?_
        refine gt12_55 C hK hW (rfl : shM 0 = 12) (List.mem_cons_of_mem _ mw878) (fun _ h9 => List.mem_cons_of_mem _ (inU_wsX120 _ h9)) dX12_clash_30 ?_
        refine lv_goto (tgt := 40) hx hb dX12_clash_33 (by decide) ?_
        exact k_iret rfl C hW dX12_clash_40 hq
    · have hq := hq.2 c6
      refine lv_bipush (v := (-2)) hx hb dX12_clash_22 (by decide) ?_
      exact k_iret rfl C hW dX12_clash_24 hq
  · have hq := hq.2 c3
    refine lv_iconst (v := (-1)) hx hb dX12_clash_12 (by decide) ?_
    exact k_iret rfl C hW dX12_clash_13 hq
theorem c_X12_clash (l : Launch) (G : wG) (h : hp) (x1 : Int32) (x2 : Int32) (Q : Int32 → hp → Prop) (hq : w_X12_clash h x1 x2 Q) : ctI l SM G yX12_clash wUX12_clash rmX12_clash h [.ref (G.2.2 0), .int x1, .int x2] Q := by
  refine k_start (cc := cX12_clash) (maxL := 3) (rt := (some .int)) (own := RX12) (by decide +kernel) rfl rfl (Nat.le_of_ble_eq_true rfl) ?_
  intro p e s m below meth c ls C hK hW hl
  exact k_X12_clash_0 C hK hW hl hq
theorem k_X12_world_0 {Q : Int32 → Prop} {x1 : Int32} {x2 : Int32} {h : hp} (C : kC p s m args meth c cX12_world 3 (some .int) RX12 wUX12_world) (hK : kK G s) {H : Heap} {locs : List Loc} {ls : Array Slot} (hW : kW SM G h (aS SM G) s H locs) (hl : lv_has ls 3 [(0, .ref (G.2.2 0)), (1, .int x1), (2, .int x2)]) (hq : w_X12_world_0 Q x1 x2 h) : W p l e rmX12_world s m args below meth c H locs 0 0 (MQ below (va_Qi (fun r9 h9 => h9 = h ∧ Q r9) (kB SM G) (aS SM G)) args s 0 0 (aS SM G)) (F0 m 0 ls []) := by
  have hx := C.1
  have hb := C.2.1
  unfold w_X12_world_0 at hq
  refine lv_iload_n hx hb dX12_world_0 rfl (lv_at hl 2 rfl) ?_
  refine lv_iconst (v := (-1)) hx hb dX12_world_1 (by decide) ?_
  refine lv_icmp_ne (tgt := 10) hx hb dX12_world_2 (by decide) (fun c1 => ?_) (fun c1 => ?_)
  · have hq := hq.1 c1
    refine lv_iload_n hx hb dX12_world_10 rfl (lv_at hl 1 rfl) ?_
    refine lv_i2l (v := x1.toInt64) hx hb dX12_world_11 rfl ?_
    refine lv_lconst (v := 0) hx hb dX12_world_12 (by decide) ?_
    refine lv_aload_n hx hb dX12_world_13 rfl (lv_at hl 0 rfl) ?_
    refine k_ci hW (va_runV (As := []) (rest := [.long 0, .long (x1.toInt64)]) (k_fix C) (c_X12_worldAll l G h _ hq) (cwV 0 C.2.2.2.2.2.1 (gU_V mw888 mw889 mw890 mw5 mw891) rfl rfl rfl (by decide +kernel) ⟨Nat.le_of_ble_eq_true rfl, Nat.le_of_ble_eq_true rfl⟩) (k_preV hK hW (shM_lt (rfl : shM 0 = 12) (by decide)) (ceM_12 (rfl : shM 0 = 12)) (q := (RX12, TX12, 73)) rfl) rfl rfl hl.1 rfl (lv_room (Nat.le_of_ble_eq_true rfl)) dX12_world_14 ⟨Nat.le_refl 0, Nat.le_refl 0⟩) (fun r2 h3 H locs hq hW => ?_)
    rw [hq.1] at hW
    have hq := hq.2
    refine lv_iconst (v := 1) hx hb dX12_world_17 (by decide) ?_
    refine lv_isub hx hb dX12_world_18 ?_
    refine lv_i2l (v := (r2 - 1).toInt64) hx hb dX12_world_19 rfl ?_
    refine k_ci hW (va_runS (As := [.long (x1.toInt64), .long 0, .long ((r2 - 1).toInt64)]) (rest := []) (k_fix C) (c_X12_in l G h (x1.toInt64) 0 ((r2 - 1).toInt64) _ hq) (va_cwS 3 C.2.2.2.2.2.1 (gU_S mw762 mw763 mw5 mw764) rfl rfl rfl (by decide +kernel) ⟨Nat.le_of_ble_eq_true rfl, Nat.le_of_ble_eq_true rfl⟩) (k_preS hK hW) rfl rfl hl.1 rfl (lv_room (Nat.le_of_ble_eq_true rfl)) dX12_world_20 ⟨Nat.le_refl 0, Nat.le_refl 0⟩) (fun r4 h5 H locs hq hW => ?_)
    rw [hq.1] at hW
    have hq := hq.2
    refine lv_if_eq (tgt := 56) hx hb dX12_world_23 (by decide) (fun c6 => ?_) (fun c6 => ?_)
    · have hq := hq.1 c6
      refine lv_iconst (v := (-1)) hx hb dX12_world_56 (by decide) ?_
      exact k_iret rfl C hW dX12_world_57 ⟨rfl, hq⟩
    · have hq := hq.2 c6
      refine lv_iload_n hx hb dX12_world_26 rfl (lv_at hl 2 rfl) ?_
      refine lv_i2l (v := x2.toInt64) hx hb dX12_world_27 rfl ?_
      refine lv_lconst (v := 0) hx hb dX12_world_28 (by decide) ?_
      refine lv_aload_n hx hb dX12_world_29 rfl (lv_at hl 0 rfl) ?_
      refine gt12_32 C hK hW (rfl : shM 0 = 12) (List.mem_cons_of_mem _ mw282) (fun _ h9 => List.mem_cons_of_mem _ (inU_wsX120 _ h9)) dX12_world_30 ?_
      refine lv_aload_n hx hb dX12_world_33 rfl (lv_at hl 0 rfl) ?_
      refine gt12_18 C hK hW (rfl : shM 0 = 12) (List.mem_cons_of_mem _ mw610) (fun _ h9 => List.mem_cons_of_mem _ (inU_wsX120 _ h9)) dX12_world_34 ?_
      refine k_iald C hK hW (shM_lt (rfl : shM 19 = 14) (by decide)) (ceM_14 (rfl : shM 19 = 14) (rfl : lnM 19 = 2)) hq.1 dX12_world_37 ?_
      have hq := hq.2
      refine lv_iconst (v := 1) hx hb dX12_world_38 (by decide) ?_
      refine lv_isub hx hb dX12_world_39 ?_
      refine lv_i2l (v := ((gI h 19 (ix (gI h 0 18))) - 1).toInt64) hx hb dX12_world_40 rfl ?_
      refine k_ci hW (va_runS (As := [.long (x2.toInt64), .long 0, .long (((gI h 19 (ix (gI h 0 18))) - 1).toInt64)]) (rest := []) (k_fix C) (c_X12_in l G h (x2.toInt64) 0 (((gI h 19 (ix (gI h 0 18))) - 1).toInt64) _ hq) (va_cwS 3 C.2.2.2.2.2.1 (gU_S mw762 mw763 mw5 mw764) rfl rfl rfl (by decide +kernel) ⟨Nat.le_of_ble_eq_true rfl, Nat.le_of_ble_eq_true rfl⟩) (k_preS hK hW) rfl rfl hl.1 rfl (lv_room (Nat.le_of_ble_eq_true rfl)) dX12_world_41 ⟨Nat.le_refl 0, Nat.le_refl 0⟩) (fun r7 h8 H locs hq hW => ?_)
      rw [hq.1] at hW
      have hq := hq.2
      refine lv_if_eq (tgt := 56) hx hb dX12_world_44 (by decide) (fun c9 => ?_) (fun c9 => ?_)
      · have hq := hq.1 c9
        refine lv_iconst (v := (-1)) hx hb dX12_world_56 (by decide) ?_
        exact k_iret rfl C hW dX12_world_57 ⟨rfl, hq⟩
      · have hq := hq.2 c9
        refine lv_aload_n hx hb dX12_world_47 rfl (lv_at hl 0 rfl) ?_
        refine lv_iload_n hx hb dX12_world_48 rfl (lv_at hl 1 rfl) ?_
        refine lv_iload_n hx hb dX12_world_49 rfl (lv_at hl 2 rfl) ?_
        refine k_ci hW (va_runV (As := [.int x1, .int x2]) (rest := []) (k_fix C) (c_X12_figureOf l G h x1 x2 _ hq) (cwV 2 C.2.2.2.2.2.1 (gU_V mw896 mw897 mw898 mw5 mw899) rfl rfl rfl (by decide +kernel) ⟨Nat.le_of_ble_eq_true rfl, Nat.le_of_ble_eq_true rfl⟩) (k_preV hK hW (shM_lt (rfl : shM 0 = 12) (by decide)) (ceM_12 (rfl : shM 0 = 12)) (q := (RX12, TX12, 73)) rfl) rfl rfl hl.1 rfl (lv_room (Nat.le_of_ble_eq_true rfl)) dX12_world_50 ⟨Nat.le_refl 0, Nat.le_refl 0⟩) (fun r10 h11 H locs hq hW => ?_)
        rw [hq.1] at hW
        have hq := hq.2
        refine lv_goto (tgt := 57) hx hb dX12_world_53 (by decide) ?_
        exact k_iret rfl C hW dX12_world_57 ⟨rfl, hq⟩
  · have hq := hq.2 c1
    refine lv_aload_n hx hb dX12_world_5 rfl (lv_at hl 0 rfl) ?_
    refine k_ci hW (va_runV (As := []) (rest := []) (k_fix C) (c_X12_worldAll l G h _ hq) (cwV 0 C.2.2.2.2.2.1 (gU_V mw888 mw889 mw890 mw5 mw891) rfl rfl rfl (by decide +kernel) ⟨Nat.le_of_ble_eq_true rfl, Nat.le_of_ble_eq_true rfl⟩) (k_preV hK hW (shM_lt (rfl : shM 0 = 12) (by decide)) (ceM_12 (rfl : shM 0 = 12)) (q := (RX12, TX12, 73)) rfl) rfl rfl hl.1 rfl (lv_room (Nat.le_of_ble_eq_true rfl)) dX12_world_6 ⟨Nat.le_refl 0, Nat.le_refl 0⟩) (fun r12 h13 H locs hq hW => ?_)
    rw [hq.1] at hW
    have hq := hq.2
    exact k_iret rfl C hW dX12_world_9 ⟨rfl, hq⟩
theorem c_X12_world (l : Launch) (G : wG) (h : hp) (x1 : Int32) (x2 : Int32) (Q : Int32 → Prop) (hq : w_X12_world h x1 x2 Q) : ctI l SM G yX12_world wUX12_world rmX12_world h [.ref (G.2.2 0), .int x1, .int x2] (fun r9 h9 => h9 = h ∧ Q r9) := by
  refine k_start (cc := cX12_world) (maxL := 3) (rt := (some .int)) (own := RX12) (by decide +kernel) rfl rfl (Nat.le_of_ble_eq_true rfl) ?_
  intro p e s m below meth c ls C hK hW hl
  exact k_X12_world_0 C hK hW hl hq
theorem k_X12_once_b2 {Q : Int32 → hp → Prop} {X2 : Int32 × hp → Prop} (C : kC p s m args meth c cX12_once 2 (some .int) RX12 wUX12_once) (hK : kK G s) (hX2 : ∀ (x1 : Int32) (h : hp) (H : Heap) (locs : List Loc) (ls : Array Slot), kW SM G h (aS SM G) s H locs → lv_has ls 2 [(0, .ref (G.2.2 0)), (1, .int x1)] → X2 (x1, h) → W p l e rmX12_once s m args below meth c H locs 0 0 (MQ below (va_Qi Q (kB SM G) (aS SM G)) args s 0 0 (aS SM G)) (F0 m 2 ls [])) {x1 : Int32} {h : hp} {H : Heap} {locs : List Loc} {ls : Array Slot} (hW : kW SM G h (aS SM G) s H locs) (hl : lv_has ls 2 [(0, .ref (G.2.2 0)), (1, .int x1)]) (hq : w_X12_once_b2 Q X2 x1 h) : W p l e rmX12_once s m args below meth c H locs 0 0 (MQ below (va_Qi Q (kB SM G) (aS SM G)) args s 0 0 (aS SM G)) (F0 m 2 ls []) := by
  have hx := C.1
  have hb := C.2.1
  unfold w_X12_once_b2 at hq
  refine lv_aload_n hx hb dX12_once_2 rfl (lv_at hl 0 rfl) ?_
  refine lv_iload_n hx hb dX12_once_3 rfl (lv_at hl 1 rfl) ?_
  refine k_ci hW (va_runV (As := [.int x1]) (rest := []) (k_fix C) (c_X12_clashes l G h x1 _ hq) (cwV 1 C.2.2.2.2.2.1 (gU_V mw880 mw881 mw882 mw5 mw883) rfl rfl rfl (by decide +kernel) ⟨Nat.le_of_ble_eq_true rfl, Nat.le_of_ble_eq_true rfl⟩) (k_preV hK hW (shM_lt (rfl : shM 0 = 12) (by decide)) (ceM_12 (rfl : shM 0 = 12)) (q := (RX12, TX12, 73)) rfl) rfl rfl hl.1 rfl (lv_room (Nat.le_of_ble_eq_true rfl)) dX12_once_4 ⟨Nat.le_refl 0, Nat.le_refl 0⟩) (fun r2 h1 H locs hq hW => ?_)
  refine lv_if_eq (tgt := 16) hx hb dX12_once_7 (by decide) (fun c3 => ?_) (fun c3 => ?_)
  · have hq := hq.1 c3
    refine lv_iload_n hx hb dX12_once_16 rfl (lv_at hl 1 rfl) ?_
    exact k_iret rfl C hW dX12_once_17 hq
  · have hq := hq.2 c3
    obtain ⟨x1_4, ex1_4⟩ : ∃ y : Int32, y = x1 + 1 := ⟨_, rfl⟩
    have hq := hq x1_4 ex1_4
    refine lv_iinc (v := x1_4) (lv' := [(1, .int x1_4), (0, .ref (G.2.2 0))]) hx hb dX12_once_10 hl (k := 1) rfl (by rw [ex1_4]; rfl) (by decide) rfl (fun ls hl => ?_)
    refine lv_goto (tgt := 2) hx hb dX12_once_13 (by decide) ?_
    exact hX2 _ _ _ _ _ hW (lv_sub hl [1, 0] rfl) hq
theorem k_X12_once_2 {Q : Int32 → hp → Prop} (C : kC p s m args meth c cX12_once 2 (some .int) RX12 wUX12_once) (hK : kK G s) {x1 : Int32} {h : hp} {H : Heap} {locs : List Loc} {ls : Array Slot} (hW : kW SM G h (aS SM G) s H locs) (hl : lv_has ls 2 [(0, .ref (G.2.2 0)), (1, .int x1)]) (hq : w_X12_once_2 Q x1 h) : W p l e rmX12_once s m args below meth c H locs 0 0 (MQ below (va_Qi Q (kB SM G) (aS SM G)) args s 0 0 (aS SM G)) (F0 m 2 ls []) := by
  have key := hq (fun (q : Int32 × hp) => ∀ (H : Heap) (locs : List Loc) (ls : Array Slot), kW SM G q.2 (aS SM G) s H locs → lv_has ls 2 [(0, .ref (G.2.2 0)), (1, .int q.1)] → W p l e rmX12_once s m args below meth c H locs 0 0 (MQ below (va_Qi Q (kB SM G) (aS SM G)) args s 0 0 (aS SM G)) (F0 m 2 ls []))
    (fun q hq H locs ls hW hl => k_X12_once_b2 C hK (fun x1 h H locs ls hW hl hI => hI H locs ls hW hl) hW hl hq)
  exact key _ _ _ hW hl
theorem k_X12_once_0 {Q : Int32 → hp → Prop} {h : hp} (C : kC p s m args meth c cX12_once 2 (some .int) RX12 wUX12_once) (hK : kK G s) {H : Heap} {locs : List Loc} {ls : Array Slot} (hW : kW SM G h (aS SM G) s H locs) (hl : lv_has ls 2 [(0, .ref (G.2.2 0))]) (hq : w_X12_once_0 Q h) : W p l e rmX12_once s m args below meth c H locs 0 0 (MQ below (va_Qi Q (kB SM G) (aS SM G)) args s 0 0 (aS SM G)) (F0 m 0 ls []) := by
  have hx := C.1
  have hb := C.2.1
  unfold w_X12_once_0 at hq
  refine lv_iconst (v := 0) hx hb dX12_once_0 (by decide) ?_
  refine lv_istore_n (lv' := [(1, .int 0), (0, .ref (G.2.2 0))]) hx hb dX12_once_1 rfl hl (by decide) rfl (fun ls hl => ?_)
  exact k_X12_once_2 C hK hW (lv_sub hl [1, 0] rfl) hq
theorem c_X12_once (l : Launch) (G : wG) (h : hp) (Q : Int32 → hp → Prop) (hq : w_X12_once h Q) : ctI l SM G yX12_once wUX12_once rmX12_once h [.ref (G.2.2 0)] Q := by
  refine k_start (cc := cX12_once) (maxL := 2) (rt := (some .int)) (own := RX12) (by decide +kernel) rfl rfl (Nat.le_of_ble_eq_true rfl) ?_
  intro p e s m below meth c ls C hK hW hl
  exact k_X12_once_0 C hK hW hl hq
theorem k_X12_fullPlaces_b4 {Q : Int32 → Prop} {X4 : Int32 × Int32 → Prop} {x1 : Int32} {h : hp} (C : kC p s m args meth c cX12_fullPlaces 4 (some .int) RX12 wUX12_fullPlaces) (hK : kK G s) (hX4 : ∀ (x2 : Int32) (x3 : Int32) (H : Heap) (locs : List Loc) (ls : Array Slot), kW SM G h (aS SM G) s H locs → lv_has ls 4 [(0, .ref (G.2.2 0)), (1, .int x1), (2, .int x2), (3, .int x3)] → X4 (x2, x3) → W p l e rmX12_fullPlaces s m args below meth c H locs 0 0 (MQ below (va_Qi (fun r9 h9 => h9 = h ∧ Q r9) (kB SM G) (aS SM G)) args s 0 0 (aS SM G)) (F0 m 4 ls [])) {x2 : Int32} {x3 : Int32} {H : Heap} {locs : List Loc} {ls : Array Slot} (hW : kW SM G h (aS SM G) s H locs) (hl : lv_has ls 4 [(0, .ref (G.2.2 0)), (1, .int x1), (2, .int x2), (3, .int x3)]) (hq : w_X12_fullPlaces_b4 Q x1 h X4 x2 x3) : W p l e rmX12_fullPlaces s m args below meth c H locs 0 0 (MQ below (va_Qi (fun r9 h9 => h9 = h ∧ Q r9) (kB SM G) (aS SM G)) args s 0 0 (aS SM G)) (F0 m 4 ls []) := by
  have hx := C.1
  have hb := C.2.1
  unfold w_X12_fullPlaces_b4 at hq
  refine lv_iload_n hx hb dX12_fullPlaces_4 rfl (lv_at hl 3 rfl) ?_
  refine lv_aload_n hx hb dX12_fullPlaces_5 rfl (lv_at hl 0 rfl) ?_
  refine gt12_32 C hK hW (rfl : shM 0 = 12) (List.mem_cons_of_mem _ mw282) (fun _ h9 => List.mem_cons_of_mem _ (inU_wsX120 _ h9)) dX12_fullPlaces_6 ?_
  refine lv_aload_n hx hb dX12_fullPlaces_9 rfl (lv_at hl 0 rfl) ?_
  refine gt12_18 C hK hW (rfl : shM 0 = 12) (List.mem_cons_of_mem _ mw610) (fun _ h9 => List.mem_cons_of_mem _ (inU_wsX120 _ h9)) dX12_fullPlaces_10 ?_
  refine k_iald C hK hW (shM_lt (rfl : shM 19 = 14) (by decide)) (ceM_14 (rfl : shM 19 = 14) (rfl : lnM 19 = 2)) hq.1 dX12_fullPlaces_13 ?_
  have hq := hq.2
  refine lv_icmp_ge (tgt := 35) hx hb dX12_fullPlaces_14 (by decide) (fun c1 => ?_) (fun c1 => ?_)
  · have hq := hq.1 c1
    refine lv_iload_n hx hb dX12_fullPlaces_35 rfl (lv_at hl 2 rfl) ?_
    exact k_iret rfl C hW dX12_fullPlaces_36 ⟨rfl, hq⟩
  · have hq := hq.2 c1
    refine lv_aload_n hx hb dX12_fullPlaces_17 rfl (lv_at hl 0 rfl) ?_
    refine lv_iload_n hx hb dX12_fullPlaces_18 rfl (lv_at hl 1 rfl) ?_
    refine lv_iload_n hx hb dX12_fullPlaces_19 rfl (lv_at hl 3 rfl) ?_
    refine k_ci hW (va_runV (As := [.int x1, .int x3]) (rest := []) (k_fix C) (c_X12_figureOf l G h x1 x3 _ hq) (cwV 2 C.2.2.2.2.2.1 (gU_V mw896 mw897 mw898 mw5 mw899) rfl rfl rfl (by decide +kernel) ⟨Nat.le_of_ble_eq_true rfl, Nat.le_of_ble_eq_true rfl⟩) (k_preV hK hW (shM_lt (rfl : shM 0 = 12) (by decide)) (ceM_12 (rfl : shM 0 = 12)) (q := (RX12, TX12, 73)) rfl) rfl rfl hl.1 rfl (lv_room (Nat.le_of_ble_eq_true rfl)) dX12_fullPlaces_20 ⟨Nat.le_refl 0, Nat.le_refl 0⟩) (fun r2 h3 H locs hq hW => ?_)
    rw [hq.1] at hW
    have hq := hq.2
    refine lv_if_eq (tgt := 29) hx hb dX12_fullPlaces_23 (by decide) (fun c4 => ?_) (fun c4 => ?_)
    · have hq := hq.1 c4
      obtain ⟨x3_5, ex3_5⟩ : ∃ y : Int32, y = x3 + 1 := ⟨_, rfl⟩
      have hq := hq x3_5 ex3_5
      refine lv_iinc (v := x3_5) (lv' := [(3, .int x3_5), (0, .ref (G.2.2 0)), (1, .int x1), (2, .int x2)]) hx hb dX12_fullPlaces_29 hl (k := 3) rfl (by rw [ex3_5]; rfl) (by decide) rfl (fun ls hl => ?_)
      refine lv_goto (tgt := 4) hx hb dX12_fullPlaces_32 (by decide) ?_
      exact hX4 _ _ _ _ _ hW (lv_sub hl [1, 2, 3, 0] rfl) hq
    · have hq := hq.2 c4
      obtain ⟨x2_6, ex2_6⟩ : ∃ y : Int32, y = x2 + 1 := ⟨_, rfl⟩
      have hq := hq x2_6 ex2_6
      refine lv_iinc (v := x2_6) (lv' := [(2, .int x2_6), (0, .ref (G.2.2 0)), (1, .int x1), (3, .int x3)]) hx hb dX12_fullPlaces_26 hl (k := 2) rfl (by rw [ex2_6]; rfl) (by decide) rfl (fun ls hl => ?_)
      obtain ⟨x3_7, ex3_7⟩ : ∃ y : Int32, y = x3 + 1 := ⟨_, rfl⟩
      have hq := hq x3_7 ex3_7
      refine lv_iinc (v := x3_7) (lv' := [(3, .int x3_7), (2, .int x2_6), (0, .ref (G.2.2 0)), (1, .int x1)]) hx hb dX12_fullPlaces_29 hl (k := 3) rfl (by rw [ex3_7]; rfl) (by decide) rfl (fun ls hl => ?_)
      refine lv_goto (tgt := 4) hx hb dX12_fullPlaces_32 (by decide) ?_
      exact hX4 _ _ _ _ _ hW (lv_sub hl [2, 3, 1, 0] rfl) hq
theorem k_X12_fullPlaces_4 {Q : Int32 → Prop} {x1 : Int32} {h : hp} (C : kC p s m args meth c cX12_fullPlaces 4 (some .int) RX12 wUX12_fullPlaces) (hK : kK G s) {x2 : Int32} {x3 : Int32} {H : Heap} {locs : List Loc} {ls : Array Slot} (hW : kW SM G h (aS SM G) s H locs) (hl : lv_has ls 4 [(0, .ref (G.2.2 0)), (1, .int x1), (2, .int x2), (3, .int x3)]) (hq : w_X12_fullPlaces_4 Q x1 h x2 x3) : W p l e rmX12_fullPlaces s m args below meth c H locs 0 0 (MQ below (va_Qi (fun r9 h9 => h9 = h ∧ Q r9) (kB SM G) (aS SM G)) args s 0 0 (aS SM G)) (F0 m 4 ls []) := by
  have key := hq (fun (q : Int32 × Int32) => ∀ (H : Heap) (locs : List Loc) (ls : Array Slot), kW SM G h (aS SM G) s H locs → lv_has ls 4 [(0, .ref (G.2.2 0)), (1, .int x1), (2, .int q.1), (3, .int q.2)] → W p l e rmX12_fullPlaces s m args below meth c H locs 0 0 (MQ below (va_Qi (fun r9 h9 => h9 = h ∧ Q r9) (kB SM G) (aS SM G)) args s 0 0 (aS SM G)) (F0 m 4 ls []))
    (fun q hq H locs ls hW hl => k_X12_fullPlaces_b4 C hK (fun x2 x3 H locs ls hW hl hI => hI H locs ls hW hl) hW hl hq)
  exact key _ _ _ hW hl
theorem k_X12_fullPlaces_0 {Q : Int32 → Prop} {x1 : Int32} {h : hp} (C : kC p s m args meth c cX12_fullPlaces 4 (some .int) RX12 wUX12_fullPlaces) (hK : kK G s) {H : Heap} {locs : List Loc} {ls : Array Slot} (hW : kW SM G h (aS SM G) s H locs) (hl : lv_has ls 4 [(0, .ref (G.2.2 0)), (1, .int x1)]) (hq : w_X12_fullPlaces_0 Q x1 h) : W p l e rmX12_fullPlaces s m args below meth c H locs 0 0 (MQ below (va_Qi (fun r9 h9 => h9 = h ∧ Q r9) (kB SM G) (aS SM G)) args s 0 0 (aS SM G)) (F0 m 0 ls []) := by
  have hx := C.1
  have hb := C.2.1
  unfold w_X12_fullPlaces_0 at hq
  refine lv_iconst (v := 0) hx hb dX12_fullPlaces_0 (by decide) ?_
  refine lv_istore_n (lv' := [(2, .int 0), (0, .ref (G.2.2 0)), (1, .int x1)]) hx hb dX12_fullPlaces_1 rfl hl (by decide) rfl (fun ls hl => ?_)
  refine lv_iconst (v := 0) hx hb dX12_fullPlaces_2 (by decide) ?_
  refine lv_istore_n (lv' := [(3, .int 0), (2, .int 0), (0, .ref (G.2.2 0)), (1, .int x1)]) hx hb dX12_fullPlaces_3 rfl hl (by decide) rfl (fun ls hl => ?_)
  exact k_X12_fullPlaces_4 C hK hW (lv_sub hl [2, 3, 1, 0] rfl) hq
theorem c_X12_fullPlaces (l : Launch) (G : wG) (h : hp) (x1 : Int32) (Q : Int32 → Prop) (hq : w_X12_fullPlaces h x1 Q) : ctI l SM G yX12_fullPlaces wUX12_fullPlaces rmX12_fullPlaces h [.ref (G.2.2 0), .int x1] (fun r9 h9 => h9 = h ∧ Q r9) := by
  refine k_start (cc := cX12_fullPlaces) (maxL := 4) (rt := (some .int)) (own := RX12) (by decide +kernel) rfl rfl (Nat.le_of_ble_eq_true rfl) ?_
  intro p e s m below meth c ls C hK hW hl
  exact k_X12_fullPlaces_0 C hK hW hl hq
end LINKS
