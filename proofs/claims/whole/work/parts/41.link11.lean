section LINKS
variable {p : Program} {l : Launch} {e : Env} {s : State} {m : MethodId} {args : Array Value} {below : List Frame} {meth : Method} {c : Code} {G : wG}
theorem k_X11_enough_0 {Q : Int32 → hp → Prop} {x1 : Int32} {x2 : Int32} {x3 : Int32} {h : hp} (C : kC p s m args meth c cX11_enough 4 (some .int) RX11 wUX11_enough) (hK : kK G s) {H : Heap} {locs : List Loc} {ls : Array Slot} (hW : kW SC G h (aS SC G) s H locs) (hl : lv_has ls 4 [(0, .ref (G.2.2 0)), (1, .int x1), (2, .int x2), (3, .int x3)]) (hq : w_X11_enough_0 Q x1 x2 x3 h) : W p l e rmX11_enough s m args below meth c H locs 0 0 (MQ below (va_Qi Q (kB SC G) (aS SC G)) args s 0 0 (aS SC G)) (F0 m 0 ls []) := by
  have hx := C.1
  have hb := C.2.1
  unfold w_X11_enough_0 at hq
  refine lv_aload_n hx hb dX11_enough_0 rfl (lv_at hl 0 rfl) ?_
  refine lv_iload_n hx hb dX11_enough_1 rfl (lv_at hl 1 rfl) ?_
  refine lv_iload_n hx hb dX11_enough_2 rfl (lv_at hl 2 rfl) ?_
  refine lv_iload_n hx hb dX11_enough_3 rfl (lv_at hl 3 rfl) ?_
  refine k_ci hW (va_runV (As := [.int x1, .int x2, .int x3]) (rest := []) (k_fix C) (c_X11_choose l G h x1 x2 x3 _ hq) (cwV 3 C.2.2.2.2.2.1 (gU_V mw964 mw965 mw966 mw2 mw967) rfl rfl rfl (by decide +kernel) ⟨Nat.le_of_ble_eq_true rfl, Nat.le_of_ble_eq_true rfl⟩) (k_preV hK hW (shC_lt (rfl : shC 0 = 11) (by decide)) (ceC_11 (rfl : shC 0 = 11)) (q := (RX11, TX11, 11)) rfl) rfl rfl hl.1 rfl (lv_room (Nat.le_of_ble_eq_true rfl)) dX11_enough_4 ⟨Nat.le_refl 0, Nat.le_refl 0⟩) (fun r2 h1 H locs hq hW => ?_)
  refine lv_if_eq (tgt := 20) hx hb dX11_enough_7 (by decide) (fun c3 => ?_) (fun c3 => ?_)
  · have hq := hq.1 c3
    refine lv_iconst (v := (-1)) hx hb dX11_enough_20 (by decide) ?_
    exact k_iret rfl C hW dX11_enough_21 hq
  · have hq := hq.2 c3
    refine lv_aload_n hx hb dX11_enough_10 rfl (lv_at hl 0 rfl) ?_
    refine gt11_10 C hK hW (rfl : shC 0 = 11) (List.mem_cons_of_mem _ mw39) (fun _ h9 => List.mem_cons_of_mem _ (inU_wsX110 _ h9)) dX11_enough_11 ?_
    refine k_ci hW (va_runV (As := []) (rest := []) (k_fix C) (c_X1_enoughQuestions l G h1 _ hq) (cwV 0 C.2.2.2.2.2.1 (gU_V mw1350 mw1351 mw1352 mw38 mw1353) rfl rfl rfl (by decide +kernel) ⟨Nat.le_of_ble_eq_true rfl, Nat.le_of_ble_eq_true rfl⟩) (k_preV hK hW (shC_lt (rfl : shC 71 = 1) (by decide)) (ceC_1 (rfl : shC 71 = 1)) (q := (RX1, TX1, 7)) rfl) rfl rfl hl.1 rfl (lv_room (Nat.le_of_ble_eq_true rfl)) dX11_enough_14 ⟨Nat.le_refl 0, Nat.le_refl 0⟩) (fun r5 h4 H locs hq hW => ?_)
    refine lv_goto (tgt := 21) hx hb dX11_enough_17 (by decide) ?_
    exact k_iret rfl C hW dX11_enough_21 hq
theorem c_X11_enough (l : Launch) (G : wG) (h : hp) (x1 : Int32) (x2 : Int32) (x3 : Int32) (Q : Int32 → hp → Prop) (hq : w_X11_enough h x1 x2 x3 Q) : ctI l SC G yX11_enough wUX11_enough rmX11_enough h [.ref (G.2.2 0), .int x1, .int x2, .int x3] Q := by
  refine k_start (cc := cX11_enough) (maxL := 4) (rt := (some .int)) (own := RX11) (by decide +kernel) rfl rfl (Nat.le_of_ble_eq_true rfl) ?_
  intro p e s m below meth c ls C hK hW hl
  exact k_X11_enough_0 C hK hW hl hq
theorem k_X11_cost_b23 {Q : Int32 → Prop} {X23 : Int32 × Int32 → Prop} {x1 : Int32} {h : hp} (C : kC p s m args meth c cX11_cost 4 (some .int) RX11 wUX11_cost) (hK : kK G s) (hX23 : ∀ (x2 : Int32) (x3 : Int32) (H : Heap) (locs : List Loc) (ls : Array Slot), kW SC G h (aS SC G) s H locs → lv_has ls 4 [(0, .ref (G.2.2 0)), (1, .int x1), (2, .int x2), (3, .int x3)] → X23 (x2, x3) → W p l e rmX11_cost s m args below meth c H locs 0 0 (MQ below (va_Qi (fun r9 h9 => h9 = h ∧ Q r9) (kB SC G) (aS SC G)) args s 0 0 (aS SC G)) (F0 m 23 ls [])) {x2 : Int32} {x3 : Int32} {H : Heap} {locs : List Loc} {ls : Array Slot} (hW : kW SC G h (aS SC G) s H locs) (hl : lv_has ls 4 [(0, .ref (G.2.2 0)), (1, .int x1), (2, .int x2), (3, .int x3)]) (hq : w_X11_cost_b23 Q x1 h X23 x2 x3) : W p l e rmX11_cost s m args below meth c H locs 0 0 (MQ below (va_Qi (fun r9 h9 => h9 = h ∧ Q r9) (kB SC G) (aS SC G)) args s 0 0 (aS SC G)) (F0 m 23 ls []) := by
  have hx := C.1
  have hb := C.2.1
  unfold w_X11_cost_b23 at hq
  refine lv_iload_n hx hb dX11_cost_23 rfl (lv_at hl 3 rfl) ?_
  refine lv_iload_n hx hb dX11_cost_24 rfl (lv_at hl 1 rfl) ?_
  refine lv_icmp_ge (tgt := 50) hx hb dX11_cost_25 (by decide) (fun c4 => ?_) (fun c4 => ?_)
  · have hq := hq.1 c4
    refine lv_iload_n hx hb dX11_cost_50 rfl (lv_at hl 2 rfl) ?_
    exact k_iret rfl C hW dX11_cost_51 ⟨rfl, hq⟩
  · have hq := hq.2 c4
    refine lv_iload_n hx hb dX11_cost_28 rfl (lv_at hl 2 rfl) ?_
    refine lv_aload_n hx hb dX11_cost_29 rfl (lv_at hl 0 rfl) ?_
    refine gt11_5 C hK hW (rfl : shC 0 = 11) (List.mem_cons_of_mem _ mw28) (fun _ h9 => List.mem_cons_of_mem _ (inU_wsX110 _ h9)) dX11_cost_30 ?_
    refine gt9_1 C hK hW (rfl : shC 51 = 9) (List.mem_cons_of_mem _ mw1341) (fun _ h9 => List.mem_cons_of_mem _ (inU_wsX90 _ h9)) dX11_cost_33 ?_
    refine lv_iload_n hx hb dX11_cost_36 rfl (lv_at hl 3 rfl) ?_
    refine k_iald C hK hW (shC_lt (rfl : shC 52 = 14) (by decide)) (ceC_14 (rfl : shC 52 = 14) (rfl : lnC 52 = 20)) hq.1 dX11_cost_37 ?_
    have hq := hq.2
    refine lv_i2l (v := (gI h 52 (ix x3)).toInt64) hx hb dX11_cost_38 rfl ?_
    refine k_ci hW (va_runS (As := [.long ((gI h 52 (ix x3)).toInt64)]) (rest := [.int x2]) (k_fix C) (c_X11_figuresOf l G h ((gI h 52 (ix x3)).toInt64) _ hq) (va_cwS 1 C.2.2.2.2.2.1 (gU_S mw808 mw809 mw2 mw810) rfl rfl rfl (by decide +kernel) ⟨Nat.le_of_ble_eq_true rfl, Nat.le_of_ble_eq_true rfl⟩) (k_preS hK hW) rfl rfl hl.1 rfl (lv_room (Nat.le_of_ble_eq_true rfl)) dX11_cost_39 ⟨Nat.le_refl 0, Nat.le_refl 0⟩) (fun r5 h6 H locs hq hW => ?_)
    rw [hq.1] at hW
    have hq := hq.2
    refine lv_iadd hx hb dX11_cost_42 ?_
    refine lv_topi (fun x2_7 ex2_7 => ?_)
    have hq := hq x2_7 ex2_7
    refine lv_istore_n (lv' := [(2, .int x2_7), (0, .ref (G.2.2 0)), (1, .int x1), (3, .int x3)]) hx hb dX11_cost_43 rfl hl (by decide) rfl (fun ls hl => ?_)
    obtain ⟨x3_8, ex3_8⟩ : ∃ y : Int32, y = x3 + 1 := ⟨_, rfl⟩
    have hq := hq x3_8 ex3_8
    refine lv_iinc (v := x3_8) (lv' := [(3, .int x3_8), (2, .int x2_7), (0, .ref (G.2.2 0)), (1, .int x1)]) hx hb dX11_cost_44 hl (k := 3) rfl (by rw [ex3_8]; rfl) (by decide) rfl (fun ls hl => ?_)
    refine lv_goto (tgt := 23) hx hb dX11_cost_47 (by decide) ?_
    exact hX23 _ _ _ _ _ hW (lv_sub hl [2, 3, 1, 0] rfl) hq
theorem k_X11_cost_23 {Q : Int32 → Prop} {x1 : Int32} {h : hp} (C : kC p s m args meth c cX11_cost 4 (some .int) RX11 wUX11_cost) (hK : kK G s) {x2 : Int32} {x3 : Int32} {H : Heap} {locs : List Loc} {ls : Array Slot} (hW : kW SC G h (aS SC G) s H locs) (hl : lv_has ls 4 [(0, .ref (G.2.2 0)), (1, .int x1), (2, .int x2), (3, .int x3)]) (hq : w_X11_cost_23 Q x1 h x2 x3) : W p l e rmX11_cost s m args below meth c H locs 0 0 (MQ below (va_Qi (fun r9 h9 => h9 = h ∧ Q r9) (kB SC G) (aS SC G)) args s 0 0 (aS SC G)) (F0 m 23 ls []) := by
  have key := hq (fun (q : Int32 × Int32) => ∀ (H : Heap) (locs : List Loc) (ls : Array Slot), kW SC G h (aS SC G) s H locs → lv_has ls 4 [(0, .ref (G.2.2 0)), (1, .int x1), (2, .int q.1), (3, .int q.2)] → W p l e rmX11_cost s m args below meth c H locs 0 0 (MQ below (va_Qi (fun r9 h9 => h9 = h ∧ Q r9) (kB SC G) (aS SC G)) args s 0 0 (aS SC G)) (F0 m 23 ls []))
    (fun q hq H locs ls hW hl => k_X11_cost_b23 C hK (fun x2 x3 H locs ls hW hl hI => hI H locs ls hW hl) hW hl hq)
  exact key _ _ _ hW hl
theorem k_X11_cost_0 {Q : Int32 → Prop} {x1 : Int32} {h : hp} (C : kC p s m args meth c cX11_cost 4 (some .int) RX11 wUX11_cost) (hK : kK G s) {H : Heap} {locs : List Loc} {ls : Array Slot} (hW : kW SC G h (aS SC G) s H locs) (hl : lv_has ls 4 [(0, .ref (G.2.2 0)), (1, .int x1)]) (hq : w_X11_cost_0 Q x1 h) : W p l e rmX11_cost s m args below meth c H locs 0 0 (MQ below (va_Qi (fun r9 h9 => h9 = h ∧ Q r9) (kB SC G) (aS SC G)) args s 0 0 (aS SC G)) (F0 m 0 ls []) := by
  have hx := C.1
  have hb := C.2.1
  unfold w_X11_cost_0 at hq
  refine lv_iload_n hx hb dX11_cost_0 rfl (lv_at hl 1 rfl) ?_
  refine lv_i2l (v := x1.toInt64) hx hb dX11_cost_1 rfl ?_
  refine lv_lconst (v := 0) hx hb dX11_cost_2 (by decide) ?_
  refine lv_aload_n hx hb dX11_cost_3 rfl (lv_at hl 0 rfl) ?_
  refine gt11_5 C hK hW (rfl : shC 0 = 11) (List.mem_cons_of_mem _ mw28) (fun _ h9 => List.mem_cons_of_mem _ (inU_wsX110 _ h9)) dX11_cost_4 ?_
  refine gt9_0 C hK hW (rfl : shC 51 = 9) (List.mem_cons_of_mem _ mw933) (fun _ h9 => List.mem_cons_of_mem _ (inU_wsX90 _ h9)) dX11_cost_7 ?_
  refine lv_i2l (v := (gI h 51 0).toInt64) hx hb dX11_cost_10 rfl ?_
  refine k_ci hW (va_runS (As := [.long (x1.toInt64), .long 0, .long ((gI h 51 0).toInt64)]) (rest := []) (k_fix C) (c_X11_within l G h (x1.toInt64) 0 ((gI h 51 0).toInt64) _ hq) (va_cwS 3 C.2.2.2.2.2.1 (gU_S mw780 mw446 mw2 mw447) rfl rfl rfl (by decide +kernel) ⟨Nat.le_of_ble_eq_true rfl, Nat.le_of_ble_eq_true rfl⟩) (k_preS hK hW) rfl rfl hl.1 rfl (lv_room (Nat.le_of_ble_eq_true rfl)) dX11_cost_11 ⟨Nat.le_refl 0, Nat.le_refl 0⟩) (fun r1 h2 H locs hq hW => ?_)
  rw [hq.1] at hW
  have hq := hq.2
  refine lv_if_ne (tgt := 19) hx hb dX11_cost_14 (by decide) (fun c3 => ?_) (fun c3 => ?_)
  · have hq := hq.1 c3
    refine lv_iconst (v := 0) hx hb dX11_cost_19 (by decide) ?_
    refine lv_istore_n (lv' := [(2, .int 0), (0, .ref (G.2.2 0)), (1, .int x1)]) hx hb dX11_cost_20 rfl hl (by decide) rfl (fun ls hl => ?_)
    refine lv_iconst (v := 0) hx hb dX11_cost_21 (by decide) ?_
    refine lv_istore_n (lv' := [(3, .int 0), (2, .int 0), (0, .ref (G.2.2 0)), (1, .int x1)]) hx hb dX11_cost_22 rfl hl (by decide) rfl (fun ls hl => ?_)
    exact k_X11_cost_23 C hK hW (lv_sub hl [2, 3, 1, 0] rfl) hq
  · have hq := hq.2 c3
    refine lv_iconst (v := (-1)) hx hb dX11_cost_17 (by decide) ?_
    exact k_iret rfl C hW dX11_cost_18 ⟨rfl, hq⟩
theorem c_X11_cost (l : Launch) (G : wG) (h : hp) (x1 : Int32) (Q : Int32 → Prop) (hq : w_X11_cost h x1 Q) : ctI l SC G yX11_cost wUX11_cost rmX11_cost h [.ref (G.2.2 0), .int x1] (fun r9 h9 => h9 = h ∧ Q r9) := by
  refine k_start (cc := cX11_cost) (maxL := 4) (rt := (some .int)) (own := RX11) (by decide +kernel) rfl rfl (Nat.le_of_ble_eq_true rfl) ?_
  intro p e s m below meth c ls C hK hW hl
  exact k_X11_cost_0 C hK hW hl hq
theorem k_X11_hide_0 {Q : Int32 → hp → Prop} {x1 : Int32} {h : hp} (C : kC p s m args meth c cX11_hide 2 (some .boolean) RX11 wUX11_hide) (hK : kK G s) {H : Heap} {locs : List Loc} {ls : Array Slot} (hW : kW SC G h (aS SC G) s H locs) (hl : lv_has ls 2 [(0, .ref (G.2.2 0)), (1, .int x1)]) (hq : w_X11_hide_0 Q x1 h) : W p l e rmX11_hide s m args below meth c H locs 0 0 (MQ below (va_Qi Q (kB SC G) (aS SC G)) args s 0 0 (aS SC G)) (F0 m 0 ls []) := by
  have hx := C.1
  have hb := C.2.1
  unfold w_X11_hide_0 at hq
  refine lv_aload_n hx hb dX11_hide_0 rfl (lv_at hl 0 rfl) ?_
  refine lv_iload_n hx hb dX11_hide_1 rfl (lv_at hl 1 rfl) ?_
  refine k_ci hW (va_runV (As := [.int x1]) (rest := []) (k_fix C) (c_X11_isRow l G h x1 _ hq) (cwV 1 C.2.2.2.2.2.1 (gU_V mw745 mw746 mw747 mw2 mw748) rfl rfl rfl (by decide +kernel) ⟨Nat.le_of_ble_eq_true rfl, Nat.le_of_ble_eq_true rfl⟩) (k_preV hK hW (shC_lt (rfl : shC 0 = 11) (by decide)) (ceC_11 (rfl : shC 0 = 11)) (q := (RX11, TX11, 11)) rfl) rfl rfl hl.1 rfl (lv_room (Nat.le_of_ble_eq_true rfl)) dX11_hide_2 ⟨Nat.le_refl 0, Nat.le_refl 0⟩) (fun r1 h2 H locs hq hW => ?_)
  rw [hq.1] at hW
  have hq := hq.2
  refine lv_if_ne (tgt := 10) hx hb dX11_hide_5 (by decide) (fun c3 => ?_) (fun c3 => ?_)
  · have hq := hq.1 c3
    refine lv_aload_n hx hb dX11_hide_10 rfl (lv_at hl 0 rfl) ?_
    refine lv_iload_n hx hb dX11_hide_11 rfl (lv_at hl 1 rfl) ?_
    refine pt11_7 C hK hW (rfl : shC 0 = 11) (List.mem_cons_of_mem _ mw30) (fun _ h9 => List.mem_cons_of_mem _ (inU_wsX110 _ h9)) dX11_hide_12 (fun h4 H locs eh4 hW => ?_)
    have hq := hq h4 eh4
    refine lv_aload_n hx hb dX11_hide_15 rfl (lv_at hl 0 rfl) ?_
    refine lv_iconst (v := 0) hx hb dX11_hide_16 (by decide) ?_
    refine pt11_8 C hK hW (rfl : shC 0 = 11) (List.mem_cons_of_mem _ mw31) (fun _ h9 => List.mem_cons_of_mem _ (inU_wsX110 _ h9)) dX11_hide_17 (fun h5 H locs eh5 hW => ?_)
    have hq := hq h5 eh5
    refine lv_aload_n hx hb dX11_hide_20 rfl (lv_at hl 0 rfl) ?_
    refine gt11_5 C hK hW (rfl : shC 0 = 11) (List.mem_cons_of_mem _ mw28) (fun _ h9 => List.mem_cons_of_mem _ (inU_wsX110 _ h9)) dX11_hide_21 ?_
    refine k_cv hW (va_runV (As := []) (rest := []) (k_fix C) (c_X9_clear l G (rfl : shC 51 = 9) h5 _ hq) (cwV 0 C.2.2.2.2.2.1 (gU_V mw251 mw252 mw253 mw27 mw254) rfl rfl rfl (by decide +kernel) ⟨Nat.le_of_ble_eq_true rfl, Nat.le_of_ble_eq_true rfl⟩) (k_preV hK hW (shC_lt (rfl : shC 51 = 9) (by decide)) (ceC_9 (rfl : shC 51 = 9)) (q := (RX9, TX9, 4)) rfl) rfl rfl hl.1 rfl (lv_room (Nat.le_of_ble_eq_true rfl)) dX11_hide_24 ⟨Nat.le_refl 0, Nat.le_refl 0⟩) (fun h6 H locs hq hW => ?_)
    refine lv_iconst (v := 1) hx hb dX11_hide_27 (by decide) ?_
    exact k_zret rfl isZ_1.1 C hW dX11_hide_28 hq
  · have hq := hq.2 c3
    refine lv_iconst (v := 0) hx hb dX11_hide_8 (by decide) ?_
    exact k_zret rfl isZ_0.1 C hW dX11_hide_9 hq
theorem c_X11_hide (l : Launch) (G : wG) (h : hp) (x1 : Int32) (Q : Int32 → hp → Prop) (hq : w_X11_hide h x1 Q) : ctI l SC G yX11_hide wUX11_hide rmX11_hide h [.ref (G.2.2 0), .int x1] Q := by
  refine k_start (cc := cX11_hide) (maxL := 2) (rt := (some .boolean)) (own := RX11) (by decide +kernel) rfl rfl (Nat.le_of_ble_eq_true rfl) ?_
  intro p e s m below meth c ls C hK hW hl
  exact k_X11_hide_0 C hK hW hl hq
theorem k_X11_ask_92 {Q : Int64 → hp → Prop} {x1 : Int32} {x2 : Int64} {h : hp} (C : kC p s m args meth c cX11_ask 4 (some .long) RX11 wUX11_ask) (hK : kK G s) {H : Heap} {locs : List Loc} {ls : Array Slot} (hW : kW SC G h (aS SC G) s H locs) (hl : lv_has ls 4 [(0, .ref (G.2.2 0)), (1, .int x1), (2, .long x2)]) (hq : w_X11_ask_92 Q x1 x2 h) : W p l e rmX11_ask s m args below meth c H locs 0 0 (MQ below (va_Ql Q (kB SC G) (aS SC G)) args s 0 0 (aS SC G)) (F0 m 92 ls []) := by
  have hx := C.1
  have hb := C.2.1
  unfold w_X11_ask_92 at hq
  refine lv_aload_n hx hb dX11_ask_92 rfl (lv_at hl 0 rfl) ?_
  refine gt11_5 C hK hW (rfl : shC 0 = 11) (List.mem_cons_of_mem _ mw28) (fun _ h9 => List.mem_cons_of_mem _ (inU_wsX110 _ h9)) dX11_ask_93 ?_
  refine lv_iload_n hx hb dX11_ask_96 rfl (lv_at hl 1 rfl) ?_
  refine lv_lload_n hx hb dX11_ask_97 rfl (lv_at hl 2 rfl) ?_
  refine k_cv hW (va_runV (As := [.int x1, .long x2]) (rest := []) (k_fix C) (c_X9_add l G (rfl : shC 51 = 9) h x1 x2 _ hq) (cwV 2 C.2.2.2.2.2.1 (gU_V mw938 mw939 mw940 mw27 mw941) rfl rfl rfl (by decide +kernel) ⟨Nat.le_of_ble_eq_true rfl, Nat.le_of_ble_eq_true rfl⟩) (k_preV hK hW (shC_lt (rfl : shC 51 = 9) (by decide)) (ceC_9 (rfl : shC 51 = 9)) (q := (RX9, TX9, 4)) rfl) rfl rfl hl.1 rfl (lv_room (Nat.le_of_ble_eq_true rfl)) dX11_ask_98 ⟨Nat.le_refl 0, Nat.le_refl 0⟩) (fun h19 H locs hq hW => ?_)
  refine lv_lload_n hx hb dX11_ask_101 rfl (lv_at hl 2 rfl) ?_
  exact k_lret rfl C hW dX11_ask_102 hq
theorem k_X11_ask_0 {Q : Int64 → hp → Prop} {x1 : Int32} {h : hp} (C : kC p s m args meth c cX11_ask 4 (some .long) RX11 wUX11_ask) (hK : kK G s) {H : Heap} {locs : List Loc} {ls : Array Slot} (hW : kW SC G h (aS SC G) s H locs) (hl : lv_has ls 4 [(0, .ref (G.2.2 0)), (1, .int x1)]) (hq : w_X11_ask_0 Q x1 h) : W p l e rmX11_ask s m args below meth c H locs 0 0 (MQ below (va_Ql Q (kB SC G) (aS SC G)) args s 0 0 (aS SC G)) (F0 m 0 ls []) := by
  have hx := C.1
  have hb := C.2.1
  unfold w_X11_ask_0 at hq
  refine lv_aload_n hx hb dX11_ask_0 rfl (lv_at hl 0 rfl) ?_
  refine lv_aload_n hx hb dX11_ask_1 rfl (lv_at hl 0 rfl) ?_
  refine gt11_7 C hK hW (rfl : shC 0 = 11) (List.mem_cons_of_mem _ mw30) (fun _ h9 => List.mem_cons_of_mem _ (inU_wsX110 _ h9)) dX11_ask_2 ?_
  refine k_ci hW (va_runV (As := [.int (gI h 0 7)]) (rest := []) (k_fix C) (c_X11_isRow l G h (gI h 0 7) _ hq) (cwV 1 C.2.2.2.2.2.1 (gU_V mw745 mw746 mw747 mw2 mw748) rfl rfl rfl (by decide +kernel) ⟨Nat.le_of_ble_eq_true rfl, Nat.le_of_ble_eq_true rfl⟩) (k_preV hK hW (shC_lt (rfl : shC 0 = 11) (by decide)) (ceC_11 (rfl : shC 0 = 11)) (q := (RX11, TX11, 11)) rfl) rfl rfl hl.1 rfl (lv_room (Nat.le_of_ble_eq_true rfl)) dX11_ask_5 ⟨Nat.le_refl 0, Nat.le_refl 0⟩) (fun r1 h2 H locs hq hW => ?_)
  rw [hq.1] at hW
  have hq := hq.2
  refine lv_if_eq (tgt := 35) hx hb dX11_ask_8 (by decide) (fun c3 => ?_) (fun c3 => ?_)
  · have hq := hq.1 c3
    refine lv_ldc2 (v := (-2000000000000000000)) hx hb C.2.2.2.2.1 (C.2.2.2.2.2.1 _ (List.mem_cons_of_mem _ mw779)) dX11_ask_35 ?_
    exact k_lret rfl C hW dX11_ask_38 hq
  · have hq := hq.2 c3
    refine lv_aload_n hx hb dX11_ask_11 rfl (lv_at hl 0 rfl) ?_
    refine gt11_5 C hK hW (rfl : shC 0 = 11) (List.mem_cons_of_mem _ mw28) (fun _ h9 => List.mem_cons_of_mem _ (inU_wsX110 _ h9)) dX11_ask_12 ?_
    refine k_ci hW (va_runV (As := []) (rest := []) (k_fix C) (c_X9_isFull l G (rfl : shC 51 = 9) h _ hq) (cwV 0 C.2.2.2.2.2.1 (gU_V mw934 mw935 mw936 mw27 mw937) rfl rfl rfl (by decide +kernel) ⟨Nat.le_of_ble_eq_true rfl, Nat.le_of_ble_eq_true rfl⟩) (k_preV hK hW (shC_lt (rfl : shC 51 = 9) (by decide)) (ceC_9 (rfl : shC 51 = 9)) (q := (RX9, TX9, 4)) rfl) rfl rfl hl.1 rfl (lv_room (Nat.le_of_ble_eq_true rfl)) dX11_ask_15 ⟨Nat.le_refl 0, Nat.le_refl 0⟩) (fun r4 h5 H locs hq hW => ?_)
    rw [hq.1] at hW
    have hq := hq.2
    refine lv_if_ne (tgt := 35) hx hb dX11_ask_18 (by decide) (fun c6 => ?_) (fun c6 => ?_)
    · have hq := hq.1 c6
      refine lv_ldc2 (v := (-2000000000000000000)) hx hb C.2.2.2.2.1 (C.2.2.2.2.2.1 _ (List.mem_cons_of_mem _ mw779)) dX11_ask_35 ?_
      exact k_lret rfl C hW dX11_ask_38 hq
    · have hq := hq.2 c6
      refine lv_iload_n hx hb dX11_ask_21 rfl (lv_at hl 1 rfl) ?_
      refine lv_i2l (v := x1.toInt64) hx hb dX11_ask_22 rfl ?_
      refine lv_ldc2 (v := (-99)) hx hb C.2.2.2.2.1 (C.2.2.2.2.2.1 _ (List.mem_cons_of_mem _ mw929)) dX11_ask_23 ?_
      refine lv_ldc2 (v := 99) hx hb C.2.2.2.2.1 (C.2.2.2.2.2.1 _ (List.mem_cons_of_mem _ mw930)) dX11_ask_26 ?_
      refine k_ci hW (va_runS (As := [.long (x1.toInt64), .long (-99), .long 99]) (rest := []) (k_fix C) (c_X11_within l G h (x1.toInt64) (-99) 99 _ hq) (va_cwS 3 C.2.2.2.2.2.1 (gU_S mw780 mw446 mw2 mw447) rfl rfl rfl (by decide +kernel) ⟨Nat.le_of_ble_eq_true rfl, Nat.le_of_ble_eq_true rfl⟩) (k_preS hK hW) rfl rfl hl.1 rfl (lv_room (Nat.le_of_ble_eq_true rfl)) dX11_ask_29 ⟨Nat.le_refl 0, Nat.le_refl 0⟩) (fun r7 h8 H locs hq hW => ?_)
      rw [hq.1] at hW
      have hq := hq.2
      refine lv_if_ne (tgt := 39) hx hb dX11_ask_32 (by decide) (fun c9 => ?_) (fun c9 => ?_)
      · have hq := hq.1 c9
        refine lv_aload_n hx hb dX11_ask_39 rfl (lv_at hl 0 rfl) ?_
        refine lv_dup hx hb dX11_ask_40 rfl ?_
        refine gt11_8 C hK hW (rfl : shC 0 = 11) (List.mem_cons_of_mem _ mw31) (fun _ h9 => List.mem_cons_of_mem _ (inU_wsX110 _ h9)) dX11_ask_41 ?_
        refine lv_iconst (v := 1) hx hb dX11_ask_44 (by decide) ?_
        refine lv_iadd hx hb dX11_ask_45 ?_
        refine pt11_8 C hK hW (rfl : shC 0 = 11) (List.mem_cons_of_mem _ mw31) (fun _ h9 => List.mem_cons_of_mem _ (inU_wsX110 _ h9)) dX11_ask_46 (fun h10 H locs eh10 hW => ?_)
        have hq := hq h10 eh10
        refine lv_aload_n hx hb dX11_ask_49 rfl (lv_at hl 0 rfl) ?_
        refine gt11_4 C hK hW (rfl : shC 0 = 11) (List.mem_cons_of_mem _ mw24) (fun _ h9 => List.mem_cons_of_mem _ (inU_wsX110 _ h9)) dX11_ask_50 ?_
        have hr11 := hq.1
        have hq := hq.2
        refine lv_aload_n hx hb dX11_ask_53 rfl (lv_at hl 0 rfl) ?_
        refine gt11_7 C hK hW (rfl : shC 0 = 11) (List.mem_cons_of_mem _ mw30) (fun _ h9 => List.mem_cons_of_mem _ (inU_wsX110 _ h9)) dX11_ask_54 ?_
        refine lv_iload_n hx hb dX11_ask_57 rfl (lv_at hl 1 rfl) ?_
        refine lv_i2l (v := x1.toInt64) hx hb dX11_ask_58 rfl ?_
        refine k_cl hW (va_runV (As := [.int (gI h10 0 7), .long (x1.toInt64)]) (rest := []) (k_fix C) (c_X7_comesTo l G hr11 h10 (gI h10 0 7) (x1.toInt64) _ hq) (cwV 2 C.2.2.2.2.2.1 (gU_V mw781 mw782 mw783 mw23 mw784) rfl rfl rfl (by decide +kernel) ⟨Nat.le_of_ble_eq_true rfl, Nat.le_of_ble_eq_true rfl⟩) (k_preV hK hW (shC_lt hr11 (by decide)) (ceC_7 hr11) (q := (RX7, TX7, 10)) rfl) rfl rfl hl.1 rfl (lv_room (Nat.le_of_ble_eq_true rfl)) dX11_ask_59 ⟨Nat.le_refl 0, Nat.le_refl 0⟩) (fun r12 h13 H locs hq hW => ?_)
        rw [hq.1] at hW
        have hq := hq.2
        refine lv_lstore_n (lv' := [(2, .long r12), (0, .ref (G.2.2 0)), (1, .int x1)]) hx hb dX11_ask_62 rfl hl (by decide) rfl (fun ls hl => ?_)
        refine lv_aload_n hx hb dX11_ask_63 rfl (lv_at hl 1 rfl) ?_
        refine gt11_4 C hK hW (rfl : shC 0 = 11) (List.mem_cons_of_mem _ mw24) (fun _ h9 => List.mem_cons_of_mem _ (inU_wsX110 _ h9)) dX11_ask_64 ?_
        have hr14 := hq.1
        have hq := hq.2
        refine gt7_9 C hK hW hr14 (List.mem_cons_of_mem _ mw1331) (fun _ h9 => List.mem_cons_of_mem _ (inU_wsX70 _ h9)) dX11_ask_67 ?_
        refine lv_if_le (tgt := 92) hx hb dX11_ask_70 (by decide) (fun c15 => ?_) (fun c15 => ?_)
        · have hq := hq.1 c15
          exact k_X11_ask_92 C hK hW (lv_sub hl [1, 2, 0] rfl) hq
        · have hq := hq.2 c15
          refine lv_aload_n hx hb dX11_ask_73 rfl (lv_at hl 1 rfl) ?_
          refine gt11_8 C hK hW (rfl : shC 0 = 11) (List.mem_cons_of_mem _ mw31) (fun _ h9 => List.mem_cons_of_mem _ (inU_wsX110 _ h9)) dX11_ask_74 ?_
          refine lv_aload_n hx hb dX11_ask_77 rfl (lv_at hl 1 rfl) ?_
          refine gt11_4 C hK hW (rfl : shC 0 = 11) (List.mem_cons_of_mem _ mw24) (fun _ h9 => List.mem_cons_of_mem _ (inU_wsX110 _ h9)) dX11_ask_78 ?_
          have hr16 := hq.1
          have hq := hq.2
          refine gt7_9 C hK hW hr16 (List.mem_cons_of_mem _ mw1331) (fun _ h9 => List.mem_cons_of_mem _ (inU_wsX70 _ h9)) dX11_ask_81 ?_
          refine k_irem hx hb dX11_ask_84 hq.1 ?_
          have hq := hq.2
          refine lv_if_ne (tgt := 92) hx hb dX11_ask_85 (by decide) (fun c17 => ?_) (fun c17 => ?_)
          · have hq := hq.1 c17
            exact k_X11_ask_92 C hK hW (lv_sub hl [1, 2, 0] rfl) hq
          · have hq := hq.2 c17
            refine lv_lload_n hx hb dX11_ask_88 rfl (lv_at hl 0 rfl) ?_
            refine lv_lconst (v := 1) hx hb dX11_ask_89 (by decide) ?_
            refine lv_ladd hx hb dX11_ask_90 ?_
            refine lv_topl (fun x2_18 ex2_18 => ?_)
            have hq := hq x2_18 ex2_18
            refine lv_lstore_n (lv' := [(2, .long x2_18), (0, .ref (G.2.2 0)), (1, .int x1)]) hx hb dX11_ask_91 rfl hl (by decide) rfl (fun ls hl => ?_)
            exact k_X11_ask_92 C hK hW (lv_sub hl [1, 2, 0] rfl) hq
      · have hq := hq.2 c9
        refine lv_ldc2 (v := (-2000000000000000000)) hx hb C.2.2.2.2.1 (C.2.2.2.2.2.1 _ (List.mem_cons_of_mem _ mw779)) dX11_ask_35 ?_
        exact k_lret rfl C hW dX11_ask_38 hq
theorem c_X11_ask (l : Launch) (G : wG) (h : hp) (x1 : Int32) (Q : Int64 → hp → Prop) (hq : w_X11_ask h x1 Q) : ctL l SC G yX11_ask wUX11_ask rmX11_ask h [.ref (G.2.2 0), .int x1] Q := by
  refine k_start (cc := cX11_ask) (maxL := 4) (rt := (some .long)) (own := RX11) (by decide +kernel) rfl rfl (Nat.le_of_ble_eq_true rfl) ?_
  intro p e s m below meth c ls C hK hW hl
  exact k_X11_ask_0 C hK hW hl hq
theorem k_X11_asks_0 {Q : Int32 → hp → Prop} {h : hp} (C : kC p s m args meth c cX11_asks 2 (some .int) RX11 wUX11_asks) (hK : kK G s) {H : Heap} {locs : List Loc} {ls : Array Slot} (hW : kW SC G h (aS SC G) s H locs) (hl : lv_has ls 2 [(0, .ref (G.2.2 0))]) (hq : w_X11_asks_0 Q h) : W p l e rmX11_asks s m args below meth c H locs 0 0 (MQ below (va_Qi Q (kB SC G) (aS SC G)) args s 0 0 (aS SC G)) (F0 m 0 ls []) := by
  have hx := C.1
  have hb := C.2.1
  unfold w_X11_asks_0 at hq
  refine lv_aload_n hx hb dX11_asks_0 rfl (lv_at hl 0 rfl) ?_
  refine gt11_5 C hK hW (rfl : shC 0 = 11) (List.mem_cons_of_mem _ mw28) (fun _ h9 => List.mem_cons_of_mem _ (inU_wsX110 _ h9)) dX11_asks_1 ?_
  refine gt9_0 C hK hW (rfl : shC 51 = 9) (List.mem_cons_of_mem _ mw933) (fun _ h9 => List.mem_cons_of_mem _ (inU_wsX90 _ h9)) dX11_asks_4 ?_
  refine lv_if_ne (tgt := 24) hx hb dX11_asks_7 (by decide) (fun c1 => ?_) (fun c1 => ?_)
  · have hq := hq.1 c1
    refine lv_aload_n hx hb dX11_asks_24 rfl (lv_at hl 0 rfl) ?_
    refine gt11_5 C hK hW (rfl : shC 0 = 11) (List.mem_cons_of_mem _ mw28) (fun _ h9 => List.mem_cons_of_mem _ (inU_wsX110 _ h9)) dX11_asks_25 ?_
    refine gt9_0 C hK hW (rfl : shC 51 = 9) (List.mem_cons_of_mem _ mw933) (fun _ h9 => List.mem_cons_of_mem _ (inU_wsX90 _ h9)) dX11_asks_28 ?_
    refine lv_iconst (v := 1) hx hb dX11_asks_31 (by decide) ?_
    refine lv_isub hx hb dX11_asks_32 ?_
    refine lv_topi (fun x1_2 ex1_2 => ?_)
    have hq := hq x1_2 ex1_2
    refine lv_istore_n (lv' := [(1, .int x1_2), (0, .ref (G.2.2 0))]) hx hb dX11_asks_33 rfl hl (by decide) rfl (fun ls hl => ?_)
    refine lv_aload_n hx hb dX11_asks_34 rfl (lv_at hl 1 rfl) ?_
    refine gt11_4 C hK hW (rfl : shC 0 = 11) (List.mem_cons_of_mem _ mw24) (fun _ h9 => List.mem_cons_of_mem _ (inU_wsX110 _ h9)) dX11_asks_35 ?_
    have hr3 := hq.1
    have hq := hq.2
    refine gt7_4 C hK hW hr3 (List.mem_cons_of_mem _ mw1131) (fun _ h9 => List.mem_cons_of_mem _ (inU_wsX70 _ h9)) dX11_asks_38 ?_
    refine lv_aload_n hx hb dX11_asks_41 rfl (lv_at hl 1 rfl) ?_
    refine gt11_5 C hK hW (rfl : shC 0 = 11) (List.mem_cons_of_mem _ mw28) (fun _ h9 => List.mem_cons_of_mem _ (inU_wsX110 _ h9)) dX11_asks_42 ?_
    refine gt9_0 C hK hW (rfl : shC 51 = 9) (List.mem_cons_of_mem _ mw933) (fun _ h9 => List.mem_cons_of_mem _ (inU_wsX90 _ h9)) dX11_asks_45 ?_
    refine lv_aload_n hx hb dX11_asks_48 rfl (lv_at hl 1 rfl) ?_
    refine gt11_5 C hK hW (rfl : shC 0 = 11) (List.mem_cons_of_mem _ mw28) (fun _ h9 => List.mem_cons_of_mem _ (inU_wsX110 _ h9)) dX11_asks_49 ?_
    refine gt9_2 C hK hW (rfl : shC 51 = 9) (List.mem_cons_of_mem _ mw1340) (fun _ h9 => List.mem_cons_of_mem _ (inU_wsX90 _ h9)) dX11_asks_52 ?_
    refine lv_iload_n hx hb dX11_asks_55 rfl (lv_at hl 0 rfl) ?_
    refine k_lald C hK hW (shC_lt (rfl : shC 53 = 15) (by decide)) (ceC_15 (rfl : shC 53 = 15) (rfl : lnC 53 = 20)) hq.1 dX11_asks_56 ?_
    have hq := hq.2
    refine lv_aload_n hx hb dX11_asks_57 rfl (lv_at hl 1 rfl) ?_
    refine gt11_5 C hK hW (rfl : shC 0 = 11) (List.mem_cons_of_mem _ mw28) (fun _ h9 => List.mem_cons_of_mem _ (inU_wsX110 _ h9)) dX11_asks_58 ?_
    refine gt9_1 C hK hW (rfl : shC 51 = 9) (List.mem_cons_of_mem _ mw1341) (fun _ h9 => List.mem_cons_of_mem _ (inU_wsX90 _ h9)) dX11_asks_61 ?_
    refine lv_iload_n hx hb dX11_asks_64 rfl (lv_at hl 0 rfl) ?_
    refine k_iald C hK hW (shC_lt (rfl : shC 52 = 14) (by decide)) (ceC_14 (rfl : shC 52 = 14) (rfl : lnC 52 = 20)) hq.1 dX11_asks_65 ?_
    have hq := hq.2
    refine k_ci hW (va_runV (As := [.int (gI h 51 0), .long (gL h 53 (ix x1_2)), .int (gI h 52 (ix x1_2))]) (rest := []) (k_fix C) (c_X2_question l G (sl7_4 hr3) h (gI h 51 0) (gL h 53 (ix x1_2)) (gI h 52 (ix x1_2)) _ hq) (cwV 3 C.2.2.2.2.2.1 (gU_V mw1137 mw1138 mw1139 mw69 mw1140) rfl rfl rfl (by decide +kernel) ⟨Nat.le_of_ble_eq_true rfl, Nat.le_of_ble_eq_true rfl⟩) (k_preV hK hW (shC_lt (sl7_4 hr3) (by decide)) (ceC_2 (sl7_4 hr3)) (q := (RX2, TX2, 5)) rfl) rfl rfl hl.1 rfl (lv_room (Nat.le_of_ble_eq_true rfl)) dX11_asks_66 ⟨Nat.le_refl 0, Nat.le_refl 0⟩) (fun r5 h4 H locs hq hW => ?_)
    exact k_iret rfl C hW dX11_asks_69 hq
  · have hq := hq.2 c1
    refine lv_aload_n hx hb dX11_asks_10 rfl (lv_at hl 0 rfl) ?_
    refine gt11_4 C hK hW (rfl : shC 0 = 11) (List.mem_cons_of_mem _ mw24) (fun _ h9 => List.mem_cons_of_mem _ (inU_wsX110 _ h9)) dX11_asks_11 ?_
    have hr6 := hq.1
    have hq := hq.2
    refine gt7_4 C hK hW hr6 (List.mem_cons_of_mem _ mw1131) (fun _ h9 => List.mem_cons_of_mem _ (inU_wsX70 _ h9)) dX11_asks_14 ?_
    refine lv_iconst (v := 0) hx hb dX11_asks_17 (by decide) ?_
    refine lv_lconst (v := 0) hx hb dX11_asks_18 (by decide) ?_
    refine lv_iconst (v := 0) hx hb dX11_asks_19 (by decide) ?_
    refine k_ci hW (va_runV (As := [.int 0, .long 0, .int 0]) (rest := []) (k_fix C) (c_X2_question l G (sl7_4 hr6) h 0 0 0 _ hq) (cwV 3 C.2.2.2.2.2.1 (gU_V mw1137 mw1138 mw1139 mw69 mw1140) rfl rfl rfl (by decide +kernel) ⟨Nat.le_of_ble_eq_true rfl, Nat.le_of_ble_eq_true rfl⟩) (k_preV hK hW (shC_lt (sl7_4 hr6) (by decide)) (ceC_2 (sl7_4 hr6)) (q := (RX2, TX2, 5)) rfl) rfl rfl hl.1 rfl (lv_room (Nat.le_of_ble_eq_true rfl)) dX11_asks_20 ⟨Nat.le_refl 0, Nat.le_refl 0⟩) (fun r8 h7 H locs hq hW => ?_)
    exact k_iret rfl C hW dX11_asks_23 hq
theorem c_X11_asks (l : Launch) (G : wG) (h : hp) (Q : Int32 → hp → Prop) (hq : w_X11_asks h Q) : ctI l SC G yX11_asks wUX11_asks rmX11_asks h [.ref (G.2.2 0)] Q := by
  refine k_start (cc := cX11_asks) (maxL := 2) (rt := (some .int)) (own := RX11) (by decide +kernel) rfl rfl (Nat.le_of_ble_eq_true rfl) ?_
  intro p e s m below meth c ls C hK hW hl
  exact k_X11_asks_0 C hK hW hl hq
theorem k_X11_isSlot_0 {Q : Int32 → Prop} {x0 : Int32} {h : hp} (C : kC p s m args meth c cX11_isSlot 1 (some .boolean) RX11 wUX11_isSlot) (hK : kK G s) {H : Heap} {locs : List Loc} {ls : Array Slot} (hW : kW SC G h (aS SC G) s H locs) (hl : lv_has ls 1 [(0, .int x0)]) (hq : w_X11_isSlot_0 Q x0) : W p l e rmX11_isSlot s m args below meth c H locs 0 0 (MQ below (va_Qi (fun r9 h9 => h9 = h ∧ Q r9) (kB SC G) (aS SC G)) args s 0 0 (aS SC G)) (F0 m 0 ls []) := by
  have hx := C.1
  have hb := C.2.1
  unfold w_X11_isSlot_0 at hq
  refine lv_iload_n hx hb dX11_isSlot_0 rfl (lv_at hl 0 rfl) ?_
  refine lv_if_lt (tgt := 13) hx hb dX11_isSlot_1 (by decide) (fun c1 => ?_) (fun c1 => ?_)
  · have hq := hq.1 c1
    refine lv_iconst (v := 0) hx hb dX11_isSlot_13 (by decide) ?_
    exact k_zret rfl isZ_0.1 C hW dX11_isSlot_14 ⟨rfl, hq⟩
  · have hq := hq.2 c1
    refine lv_iload_n hx hb dX11_isSlot_4 rfl (lv_at hl 0 rfl) ?_
    refine lv_iconst (v := 3) hx hb dX11_isSlot_5 (by decide) ?_
    refine lv_icmp_ge (tgt := 13) hx hb dX11_isSlot_6 (by decide) (fun c2 => ?_) (fun c2 => ?_)
    · have hq := hq.1 c2
      refine lv_iconst (v := 0) hx hb dX11_isSlot_13 (by decide) ?_
      exact k_zret rfl isZ_0.1 C hW dX11_isSlot_14 ⟨rfl, hq⟩
    · have hq := hq.2 c2
      refine lv_iconst (v := 1) hx hb dX11_isSlot_9 (by decide) ?_
      refine lv_goto (tgt := 14) hx hb dX11_isSlot_10 (by decide) ?_
      exact k_zret rfl isZ_1.1 C hW dX11_isSlot_14 ⟨rfl, hq⟩
theorem c_X11_isSlot (l : Launch) (G : wG) (h : hp) (x0 : Int32) (Q : Int32 → Prop) (hq : w_X11_isSlot x0 Q) : ctI l SC G yX11_isSlot wUX11_isSlot rmX11_isSlot h [.int x0] (fun r9 h9 => h9 = h ∧ Q r9) := by
  refine k_start (cc := cX11_isSlot) (maxL := 1) (rt := (some .boolean)) (own := RX11) (by decide +kernel) rfl rfl (Nat.le_of_ble_eq_true rfl) ?_
  intro p e s m below meth c ls C hK hW hl
  exact k_X11_isSlot_0 C hK hW hl hq
theorem k_X11_hold_0 {Q : Int32 → hp → Prop} {x1 : Int32} {h : hp} (C : kC p s m args meth c cX11_hold 2 (some .boolean) RX11 wUX11_hold) (hK : kK G s) {H : Heap} {locs : List Loc} {ls : Array Slot} (hW : kW SC G h (aS SC G) s H locs) (hl : lv_has ls 2 [(0, .ref (G.2.2 0)), (1, .int x1)]) (hq : w_X11_hold_0 Q x1 h) : W p l e rmX11_hold s m args below meth c H locs 0 0 (MQ below (va_Qi Q (kB SC G) (aS SC G)) args s 0 0 (aS SC G)) (F0 m 0 ls []) := by
  have hx := C.1
  have hb := C.2.1
  unfold w_X11_hold_0 at hq
  refine lv_iload_n hx hb dX11_hold_0 rfl (lv_at hl 1 rfl) ?_
  refine k_ci hW (va_runS (As := [.int x1]) (rest := []) (k_fix C) (c_X11_isSlot l G h x1 _ hq) (va_cwS 1 C.2.2.2.2.2.1 (gU_S mw1524 mw1525 mw2 mw1526) rfl rfl rfl (by decide +kernel) ⟨Nat.le_of_ble_eq_true rfl, Nat.le_of_ble_eq_true rfl⟩) (k_preS hK hW) rfl rfl hl.1 rfl (lv_room (Nat.le_of_ble_eq_true rfl)) dX11_hold_1 ⟨Nat.le_refl 0, Nat.le_refl 0⟩) (fun r1 h2 H locs hq hW => ?_)
  rw [hq.1] at hW
  have hq := hq.2
  refine lv_if_ne (tgt := 9) hx hb dX11_hold_4 (by decide) (fun c3 => ?_) (fun c3 => ?_)
  · have hq := hq.1 c3
    refine lv_aload_n hx hb dX11_hold_9 rfl (lv_at hl 0 rfl) ?_
    refine gt11_6 C hK hW (rfl : shC 0 = 11) (List.mem_cons_of_mem _ mw29) (fun _ h9 => List.mem_cons_of_mem _ (inU_wsX110 _ h9)) dX11_hold_10 ?_
    refine lv_iload_n hx hb dX11_hold_13 rfl (lv_at hl 1 rfl) ?_
    have hv4 := hq.1
    have hq := hq.2
    refine k_aald C hK hW (shC_lt (rfl : shC 63 = 17) (by decide)) (t0 := 4) rfl rfl (ceC_17 (rfl : shC 63 = 17)) hv4 (sl_if hv4) dX11_hold_14 ?_
    refine lv_aload_n hx hb dX11_hold_15 rfl (lv_at hl 0 rfl) ?_
    refine gt11_5 C hK hW (rfl : shC 0 = 11) (List.mem_cons_of_mem _ mw28) (fun _ h9 => List.mem_cons_of_mem _ (inU_wsX110 _ h9)) dX11_hold_16 ?_
    refine k_cv hW (va_runV (As := [.ref (G.2.2 51)]) (rest := []) (k_fix C) (c_X9_copy l G (sl_T hv4) (rfl : shC 51 = 9) h _ hq) (cwV 1 C.2.2.2.2.2.1 (gU_V mw1527 mw1528 mw1529 mw27 mw1530) rfl rfl rfl (by decide +kernel) ⟨Nat.le_of_ble_eq_true rfl, Nat.le_of_ble_eq_true rfl⟩) (k_preV hK hW (shC_lt (sl_T hv4) (by decide)) (ceC_9 (sl_T hv4)) (q := (RX9, TX9, 4)) rfl) rfl rfl hl.1 rfl (lv_room (Nat.le_of_ble_eq_true rfl)) dX11_hold_19 ⟨Nat.le_refl 0, Nat.le_refl 0⟩) (fun h5 H locs hq hW => ?_)
    refine lv_aload_n hx hb dX11_hold_22 rfl (lv_at hl 0 rfl) ?_
    refine gt11_6 C hK hW (rfl : shC 0 = 11) (List.mem_cons_of_mem _ mw29) (fun _ h9 => List.mem_cons_of_mem _ (inU_wsX110 _ h9)) dX11_hold_23 ?_
    refine lv_iload_n hx hb dX11_hold_26 rfl (lv_at hl 1 rfl) ?_
    have hv6 := hq.1
    have hq := hq.2
    refine k_aald C hK hW (shC_lt (rfl : shC 63 = 17) (by decide)) (t0 := 4) rfl rfl (ceC_17 (rfl : shC 63 = 17)) hv6 (sl_if hv6) dX11_hold_27 ?_
    refine lv_iconst (v := 1) hx hb dX11_hold_28 (by decide) ?_
    refine pt9_3 C hK hW (sl_T hv6) (List.mem_cons_of_mem _ mw248) (fun _ h9 => List.mem_cons_of_mem _ (inU_wsX90 _ h9)) isZ_1 dX11_hold_29 (fun h7 H locs eh7 hW => ?_)
    have hq := hq h7 eh7
    refine lv_iconst (v := 1) hx hb dX11_hold_32 (by decide) ?_
    exact k_zret rfl isZ_1.1 C hW dX11_hold_33 hq
  · have hq := hq.2 c3
    refine lv_iconst (v := 0) hx hb dX11_hold_7 (by decide) ?_
    exact k_zret rfl isZ_0.1 C hW dX11_hold_8 hq
theorem c_X11_hold (l : Launch) (G : wG) (h : hp) (x1 : Int32) (Q : Int32 → hp → Prop) (hq : w_X11_hold h x1 Q) : ctI l SC G yX11_hold wUX11_hold rmX11_hold h [.ref (G.2.2 0), .int x1] Q := by
  refine k_start (cc := cX11_hold) (maxL := 2) (rt := (some .boolean)) (own := RX11) (by decide +kernel) rfl rfl (Nat.le_of_ble_eq_true rfl) ?_
  intro p e s m below meth c ls C hK hW hl
  exact k_X11_hold_0 C hK hW hl hq
theorem k_X11_restore_0 {Q : Int32 → hp → Prop} {x1 : Int32} {h : hp} (C : kC p s m args meth c cX11_restore 2 (some .boolean) RX11 wUX11_restore) (hK : kK G s) {H : Heap} {locs : List Loc} {ls : Array Slot} (hW : kW SC G h (aS SC G) s H locs) (hl : lv_has ls 2 [(0, .ref (G.2.2 0)), (1, .int x1)]) (hq : w_X11_restore_0 Q x1 h) : W p l e rmX11_restore s m args below meth c H locs 0 0 (MQ below (va_Qi Q (kB SC G) (aS SC G)) args s 0 0 (aS SC G)) (F0 m 0 ls []) := by
  have hx := C.1
  have hb := C.2.1
  unfold w_X11_restore_0 at hq
  refine lv_iload_n hx hb dX11_restore_0 rfl (lv_at hl 1 rfl) ?_
  refine k_ci hW (va_runS (As := [.int x1]) (rest := []) (k_fix C) (c_X11_isSlot l G h x1 _ hq) (va_cwS 1 C.2.2.2.2.2.1 (gU_S mw1524 mw1525 mw2 mw1526) rfl rfl rfl (by decide +kernel) ⟨Nat.le_of_ble_eq_true rfl, Nat.le_of_ble_eq_true rfl⟩) (k_preS hK hW) rfl rfl hl.1 rfl (lv_room (Nat.le_of_ble_eq_true rfl)) dX11_restore_1 ⟨Nat.le_refl 0, Nat.le_refl 0⟩) (fun r1 h2 H locs hq hW => ?_)
  rw [hq.1] at hW
  have hq := hq.2
  refine lv_if_eq (tgt := 19) hx hb dX11_restore_4 (by decide) (fun c3 => ?_) (fun c3 => ?_)
  · have hq := hq.1 c3
    refine lv_iconst (v := 0) hx hb dX11_restore_19 (by decide) ?_
    exact k_zret rfl isZ_0.1 C hW dX11_restore_20 hq
  · have hq := hq.2 c3
    refine lv_aload_n hx hb dX11_restore_7 rfl (lv_at hl 0 rfl) ?_
    refine gt11_6 C hK hW (rfl : shC 0 = 11) (List.mem_cons_of_mem _ mw29) (fun _ h9 => List.mem_cons_of_mem _ (inU_wsX110 _ h9)) dX11_restore_8 ?_
    refine lv_iload_n hx hb dX11_restore_11 rfl (lv_at hl 1 rfl) ?_
    have hv4 := hq.1
    have hq := hq.2
    refine k_aald C hK hW (shC_lt (rfl : shC 63 = 17) (by decide)) (t0 := 4) rfl rfl (ceC_17 (rfl : shC 63 = 17)) hv4 (sl_if hv4) dX11_restore_12 ?_
    refine gt9_3 C hK hW (sl_T hv4) (List.mem_cons_of_mem _ mw248) (fun _ h9 => List.mem_cons_of_mem _ (inU_wsX90 _ h9)) dX11_restore_13 ?_
    refine lv_if_ne (tgt := 21) hx hb dX11_restore_16 (by decide) (fun c5 => ?_) (fun c5 => ?_)
    · have hq := hq.1 c5
      refine lv_aload_n hx hb dX11_restore_21 rfl (lv_at hl 0 rfl) ?_
      refine gt11_5 C hK hW (rfl : shC 0 = 11) (List.mem_cons_of_mem _ mw28) (fun _ h9 => List.mem_cons_of_mem _ (inU_wsX110 _ h9)) dX11_restore_22 ?_
      refine lv_aload_n hx hb dX11_restore_25 rfl (lv_at hl 0 rfl) ?_
      refine gt11_6 C hK hW (rfl : shC 0 = 11) (List.mem_cons_of_mem _ mw29) (fun _ h9 => List.mem_cons_of_mem _ (inU_wsX110 _ h9)) dX11_restore_26 ?_
      refine lv_iload_n hx hb dX11_restore_29 rfl (lv_at hl 1 rfl) ?_
      have hv6 := hq.1
      have hq := hq.2
      refine k_aald C hK hW (shC_lt (rfl : shC 63 = 17) (by decide)) (t0 := 4) rfl rfl (ceC_17 (rfl : shC 63 = 17)) hv6 (sl_if hv6) dX11_restore_30 ?_
      refine k_cv hW (va_runV (As := [.ref (G.2.2 (54 + 3 * ix x1))]) (rest := []) (k_fix C) (c_X9_copy l G (rfl : shC 51 = 9) (sl_T hv6) h _ hq) (cwV 1 C.2.2.2.2.2.1 (gU_V mw1527 mw1528 mw1529 mw27 mw1530) rfl rfl rfl (by decide +kernel) ⟨Nat.le_of_ble_eq_true rfl, Nat.le_of_ble_eq_true rfl⟩) (k_preV hK hW (shC_lt (rfl : shC 51 = 9) (by decide)) (ceC_9 (rfl : shC 51 = 9)) (q := (RX9, TX9, 4)) rfl) rfl rfl hl.1 rfl (lv_room (Nat.le_of_ble_eq_true rfl)) dX11_restore_31 ⟨Nat.le_refl 0, Nat.le_refl 0⟩) (fun h7 H locs hq hW => ?_)
      refine lv_iconst (v := 1) hx hb dX11_restore_34 (by decide) ?_
      exact k_zret rfl isZ_1.1 C hW dX11_restore_35 hq
    · have hq := hq.2 c5
      refine lv_iconst (v := 0) hx hb dX11_restore_19 (by decide) ?_
      exact k_zret rfl isZ_0.1 C hW dX11_restore_20 hq
theorem c_X11_restore (l : Launch) (G : wG) (h : hp) (x1 : Int32) (Q : Int32 → hp → Prop) (hq : w_X11_restore h x1 Q) : ctI l SC G yX11_restore wUX11_restore rmX11_restore h [.ref (G.2.2 0), .int x1] Q := by
  refine k_start (cc := cX11_restore) (maxL := 2) (rt := (some .boolean)) (own := RX11) (by decide +kernel) rfl rfl (Nat.le_of_ble_eq_true rfl) ?_
  intro p e s m below meth c ls C hK hW hl
  exact k_X11_restore_0 C hK hW hl hq
theorem k_X11_isWeighing_0 {Q : Int32 → Prop} {x0 : Int32} {x1 : Int32} {h : hp} (C : kC p s m args meth c cX11_isWeighing 2 (some .boolean) RX11 wUX11_isWeighing) (hK : kK G s) {H : Heap} {locs : List Loc} {ls : Array Slot} (hW : kW SC G h (aS SC G) s H locs) (hl : lv_has ls 2 [(0, .int x0), (1, .int x1)]) (hq : w_X11_isWeighing_0 Q x0 x1) : W p l e rmX11_isWeighing s m args below meth c H locs 0 0 (MQ below (va_Qi (fun r9 h9 => h9 = h ∧ Q r9) (kB SC G) (aS SC G)) args s 0 0 (aS SC G)) (F0 m 0 ls []) := by
  have hx := C.1
  have hb := C.2.1
  unfold w_X11_isWeighing_0 at hq
  refine lv_iload_n hx hb dX11_isWeighing_0 rfl (lv_at hl 0 rfl) ?_
  refine lv_i2l (v := x0.toInt64) hx hb dX11_isWeighing_1 rfl ?_
  refine lv_lconst (v := 0) hx hb dX11_isWeighing_2 (by decide) ?_
  refine lv_ldc2 (v := 999999) hx hb C.2.2.2.2.1 (C.2.2.2.2.2.1 _ (List.mem_cons_of_mem _ mw1170)) dX11_isWeighing_3 ?_
  refine k_ci hW (va_runS (As := [.long (x0.toInt64), .long 0, .long 999999]) (rest := []) (k_fix C) (c_X11_within l G h (x0.toInt64) 0 999999 _ hq) (va_cwS 3 C.2.2.2.2.2.1 (gU_S mw780 mw446 mw2 mw447) rfl rfl rfl (by decide +kernel) ⟨Nat.le_of_ble_eq_true rfl, Nat.le_of_ble_eq_true rfl⟩) (k_preS hK hW) rfl rfl hl.1 rfl (lv_room (Nat.le_of_ble_eq_true rfl)) dX11_isWeighing_6 ⟨Nat.le_refl 0, Nat.le_refl 0⟩) (fun r1 h2 H locs hq hW => ?_)
  rw [hq.1] at hW
  have hq := hq.2
  refine lv_if_eq (tgt := 28) hx hb dX11_isWeighing_9 (by decide) (fun c3 => ?_) (fun c3 => ?_)
  · have hq := hq.1 c3
    refine lv_iconst (v := 0) hx hb dX11_isWeighing_28 (by decide) ?_
    exact k_zret rfl isZ_0.1 C hW dX11_isWeighing_29 ⟨rfl, hq⟩
  · have hq := hq.2 c3
    refine lv_iload_n hx hb dX11_isWeighing_12 rfl (lv_at hl 1 rfl) ?_
    refine lv_i2l (v := x1.toInt64) hx hb dX11_isWeighing_13 rfl ?_
    refine lv_lconst (v := 1) hx hb dX11_isWeighing_14 (by decide) ?_
    refine lv_ldc2 (v := 99) hx hb C.2.2.2.2.1 (C.2.2.2.2.2.1 _ (List.mem_cons_of_mem _ mw930)) dX11_isWeighing_15 ?_
    refine k_ci hW (va_runS (As := [.long (x1.toInt64), .long 1, .long 99]) (rest := []) (k_fix C) (c_X11_within l G h (x1.toInt64) 1 99 _ hq) (va_cwS 3 C.2.2.2.2.2.1 (gU_S mw780 mw446 mw2 mw447) rfl rfl rfl (by decide +kernel) ⟨Nat.le_of_ble_eq_true rfl, Nat.le_of_ble_eq_true rfl⟩) (k_preS hK hW) rfl rfl hl.1 rfl (lv_room (Nat.le_of_ble_eq_true rfl)) dX11_isWeighing_18 ⟨Nat.le_refl 0, Nat.le_refl 0⟩) (fun r4 h5 H locs hq hW => ?_)
    rw [hq.1] at hW
    have hq := hq.2
    refine lv_if_eq (tgt := 28) hx hb dX11_isWeighing_21 (by decide) (fun c6 => ?_) (fun c6 => ?_)
    · have hq := hq.1 c6
      refine lv_iconst (v := 0) hx hb dX11_isWeighing_28 (by decide) ?_
      exact k_zret rfl isZ_0.1 C hW dX11_isWeighing_29 ⟨rfl, hq⟩
    · have hq := hq.2 c6
      refine lv_iconst (v := 1) hx hb dX11_isWeighing_24 (by decide) ?_
      refine lv_goto (tgt := 29) hx hb dX11_isWeighing_25 (by decide) ?_
      exact k_zret rfl isZ_1.1 C hW dX11_isWeighing_29 ⟨rfl, hq⟩
theorem c_X11_isWeighing (l : Launch) (G : wG) (h : hp) (x0 : Int32) (x1 : Int32) (Q : Int32 → Prop) (hq : w_X11_isWeighing x0 x1 Q) : ctI l SC G yX11_isWeighing wUX11_isWeighing rmX11_isWeighing h [.int x0, .int x1] (fun r9 h9 => h9 = h ∧ Q r9) := by
  refine k_start (cc := cX11_isWeighing) (maxL := 2) (rt := (some .boolean)) (own := RX11) (by decide +kernel) rfl rfl (Nat.le_of_ble_eq_true rfl) ?_
  intro p e s m below meth c ls C hK hW hl
  exact k_X11_isWeighing_0 C hK hW hl hq
theorem k_X11_bad_0 {Q : Int32 → Prop} {x1 : Int32} {x2 : Int32} {h : hp} (C : kC p s m args meth c cX11_bad 3 (some .int) RX11 wUX11_bad) (hK : kK G s) {H : Heap} {locs : List Loc} {ls : Array Slot} (hW : kW SC G h (aS SC G) s H locs) (hl : lv_has ls 3 [(0, .ref (G.2.2 0)), (1, .int x1), (2, .int x2)]) (hq : w_X11_bad_0 Q x1 x2 h) : W p l e rmX11_bad s m args below meth c H locs 0 0 (MQ below (va_Qi (fun r9 h9 => h9 = h ∧ Q r9) (kB SC G) (aS SC G)) args s 0 0 (aS SC G)) (F0 m 0 ls []) := by
  have hx := C.1
  have hb := C.2.1
  unfold w_X11_bad_0 at hq
  refine lv_iload_n hx hb dX11_bad_0 rfl (lv_at hl 1 rfl) ?_
  refine lv_iload_n hx hb dX11_bad_1 rfl (lv_at hl 2 rfl) ?_
  refine k_ci hW (va_runS (As := [.int x1, .int x2]) (rest := []) (k_fix C) (c_X11_isWeighing l G h x1 x2 _ hq) (va_cwS 2 C.2.2.2.2.2.1 (gU_S mw1167 mw1168 mw2 mw1169) rfl rfl rfl (by decide +kernel) ⟨Nat.le_of_ble_eq_true rfl, Nat.le_of_ble_eq_true rfl⟩) (k_preS hK hW) rfl rfl hl.1 rfl (lv_room (Nat.le_of_ble_eq_true rfl)) dX11_bad_2 ⟨Nat.le_refl 0, Nat.le_refl 0⟩) (fun r1 h2 H locs hq hW => ?_)
  rw [hq.1] at hW
  have hq := hq.2
  refine lv_if_eq (tgt := 23) hx hb dX11_bad_5 (by decide) (fun c3 => ?_) (fun c3 => ?_)
  · have hq := hq.1 c3
    refine lv_iconst (v := (-1)) hx hb dX11_bad_23 (by decide) ?_
    exact k_iret rfl C hW dX11_bad_24 ⟨rfl, hq⟩
  · have hq := hq.2 c3
    refine lv_aload_n hx hb dX11_bad_8 rfl (lv_at hl 0 rfl) ?_
    refine gt11_4 C hK hW (rfl : shC 0 = 11) (List.mem_cons_of_mem _ mw24) (fun _ h9 => List.mem_cons_of_mem _ (inU_wsX110 _ h9)) dX11_bad_9 ?_
    have hr4 := hq.1
    have hq := hq.2
    refine gt7_6 C hK hW hr4 (List.mem_cons_of_mem _ mw1166) (fun _ h9 => List.mem_cons_of_mem _ (inU_wsX70 _ h9)) dX11_bad_12 ?_
    refine lv_iload_n hx hb dX11_bad_15 rfl (lv_at hl 1 rfl) ?_
    refine lv_iload_n hx hb dX11_bad_16 rfl (lv_at hl 2 rfl) ?_
    refine k_ci hW (va_runV (As := [.int x1, .int x2]) (rest := []) (k_fix C) (c_X0_setsOff l G (sl7_6 hr4) h x1 x2 _ hq) (cwV 2 C.2.2.2.2.2.1 (gU_V mw1171 mw1172 mw1173 mw77 mw1174) rfl rfl rfl (by decide +kernel) ⟨Nat.le_of_ble_eq_true rfl, Nat.le_of_ble_eq_true rfl⟩) (k_preV hK hW (shC_lt (sl7_6 hr4) (by decide)) (ceC_0 (sl7_6 hr4)) (q := (RX0, TX0, 3)) rfl) rfl rfl hl.1 rfl (lv_room (Nat.le_of_ble_eq_true rfl)) dX11_bad_17 ⟨Nat.le_refl 0, Nat.le_refl 0⟩) (fun r5 h6 H locs hq hW => ?_)
    rw [hq.1] at hW
    have hq := hq.2
    refine lv_goto (tgt := 24) hx hb dX11_bad_20 (by decide) ?_
    exact k_iret rfl C hW dX11_bad_24 ⟨rfl, hq⟩
theorem c_X11_bad (l : Launch) (G : wG) (h : hp) (x1 : Int32) (x2 : Int32) (Q : Int32 → Prop) (hq : w_X11_bad h x1 x2 Q) : ctI l SC G yX11_bad wUX11_bad rmX11_bad h [.ref (G.2.2 0), .int x1, .int x2] (fun r9 h9 => h9 = h ∧ Q r9) := by
  refine k_start (cc := cX11_bad) (maxL := 3) (rt := (some .int)) (own := RX11) (by decide +kernel) rfl rfl (Nat.le_of_ble_eq_true rfl) ?_
  intro p e s m below meth c ls C hK hW hl
  exact k_X11_bad_0 C hK hW hl hq
theorem k_X11_badSet_0 {Q : Int32 → Prop} {x1 : Int32} {x2 : Int32} {h : hp} (C : kC p s m args meth c cX11_badSet 3 (some .int) RX11 wUX11_badSet) (hK : kK G s) {H : Heap} {locs : List Loc} {ls : Array Slot} (hW : kW SC G h (aS SC G) s H locs) (hl : lv_has ls 3 [(0, .ref (G.2.2 0)), (1, .int x1), (2, .int x2)]) (hq : w_X11_badSet_0 Q x1 x2 h) : W p l e rmX11_badSet s m args below meth c H locs 0 0 (MQ below (va_Qi (fun r9 h9 => h9 = h ∧ Q r9) (kB SC G) (aS SC G)) args s 0 0 (aS SC G)) (F0 m 0 ls []) := by
  have hx := C.1
  have hb := C.2.1
  unfold w_X11_badSet_0 at hq
  refine lv_iload_n hx hb dX11_badSet_0 rfl (lv_at hl 1 rfl) ?_
  refine lv_iload_n hx hb dX11_badSet_1 rfl (lv_at hl 2 rfl) ?_
  refine k_ci hW (va_runS (As := [.int x1, .int x2]) (rest := []) (k_fix C) (c_X11_isWeighing l G h x1 x2 _ hq) (va_cwS 2 C.2.2.2.2.2.1 (gU_S mw1167 mw1168 mw2 mw1169) rfl rfl rfl (by decide +kernel) ⟨Nat.le_of_ble_eq_true rfl, Nat.le_of_ble_eq_true rfl⟩) (k_preS hK hW) rfl rfl hl.1 rfl (lv_room (Nat.le_of_ble_eq_true rfl)) dX11_badSet_2 ⟨Nat.le_refl 0, Nat.le_refl 0⟩) (fun r1 h2 H locs hq hW => ?_)
  rw [hq.1] at hW
  have hq := hq.2
  refine lv_if_eq (tgt := 23) hx hb dX11_badSet_5 (by decide) (fun c3 => ?_) (fun c3 => ?_)
  · have hq := hq.1 c3
    refine lv_iconst (v := (-1)) hx hb dX11_badSet_23 (by decide) ?_
    exact k_iret rfl C hW dX11_badSet_24 ⟨rfl, hq⟩
  · have hq := hq.2 c3
    refine lv_aload_n hx hb dX11_badSet_8 rfl (lv_at hl 0 rfl) ?_
    refine gt11_4 C hK hW (rfl : shC 0 = 11) (List.mem_cons_of_mem _ mw24) (fun _ h9 => List.mem_cons_of_mem _ (inU_wsX110 _ h9)) dX11_badSet_9 ?_
    have hr4 := hq.1
    have hq := hq.2
    refine gt7_6 C hK hW hr4 (List.mem_cons_of_mem _ mw1166) (fun _ h9 => List.mem_cons_of_mem _ (inU_wsX70 _ h9)) dX11_badSet_12 ?_
    refine lv_iload_n hx hb dX11_badSet_15 rfl (lv_at hl 1 rfl) ?_
    refine lv_iload_n hx hb dX11_badSet_16 rfl (lv_at hl 2 rfl) ?_
    refine k_ci hW (va_runV (As := [.int x1, .int x2]) (rest := []) (k_fix C) (c_X0_leastSetOff l G (sl7_6 hr4) h x1 x2 _ hq) (cwV 2 C.2.2.2.2.2.1 (gU_V mw1188 mw1189 mw1190 mw77 mw1191) rfl rfl rfl (by decide +kernel) ⟨Nat.le_of_ble_eq_true rfl, Nat.le_of_ble_eq_true rfl⟩) (k_preV hK hW (shC_lt (sl7_6 hr4) (by decide)) (ceC_0 (sl7_6 hr4)) (q := (RX0, TX0, 3)) rfl) rfl rfl hl.1 rfl (lv_room (Nat.le_of_ble_eq_true rfl)) dX11_badSet_17 ⟨Nat.le_refl 0, Nat.le_refl 0⟩) (fun r5 h6 H locs hq hW => ?_)
    rw [hq.1] at hW
    have hq := hq.2
    refine lv_goto (tgt := 24) hx hb dX11_badSet_20 (by decide) ?_
    exact k_iret rfl C hW dX11_badSet_24 ⟨rfl, hq⟩
theorem c_X11_badSet (l : Launch) (G : wG) (h : hp) (x1 : Int32) (x2 : Int32) (Q : Int32 → Prop) (hq : w_X11_badSet h x1 x2 Q) : ctI l SC G yX11_badSet wUX11_badSet rmX11_badSet h [.ref (G.2.2 0), .int x1, .int x2] (fun r9 h9 => h9 = h ∧ Q r9) := by
  refine k_start (cc := cX11_badSet) (maxL := 3) (rt := (some .int)) (own := RX11) (by decide +kernel) rfl rfl (Nat.le_of_ble_eq_true rfl) ?_
  intro p e s m below meth c ls C hK hW hl
  exact k_X11_badSet_0 C hK hW hl hq
theorem k_X11_allTold_0 {Q : Int32 → hp → Prop} {h : hp} (C : kC p s m args meth c cX11_allTold 1 (some .boolean) RX11 wUX11_allTold) (hK : kK G s) {H : Heap} {locs : List Loc} {ls : Array Slot} (hW : kW SC G h (aS SC G) s H locs) (hl : lv_has ls 1 [(0, .ref (G.2.2 0))]) (hq : w_X11_allTold_0 Q h) : W p l e rmX11_allTold s m args below meth c H locs 0 0 (MQ below (va_Qi Q (kB SC G) (aS SC G)) args s 0 0 (aS SC G)) (F0 m 0 ls []) := by
  have hx := C.1
  have hb := C.2.1
  unfold w_X11_allTold_0 at hq
  refine lv_aload_n hx hb dX11_allTold_0 rfl (lv_at hl 0 rfl) ?_
  refine gt11_4 C hK hW (rfl : shC 0 = 11) (List.mem_cons_of_mem _ mw24) (fun _ h9 => List.mem_cons_of_mem _ (inU_wsX110 _ h9)) dX11_allTold_1 ?_
  have hr1 := hq.1
  have hq := hq.2
  refine gt7_6 C hK hW hr1 (List.mem_cons_of_mem _ mw1166) (fun _ h9 => List.mem_cons_of_mem _ (inU_wsX70 _ h9)) dX11_allTold_4 ?_
  refine k_ci hW (va_runV (As := []) (rest := []) (k_fix C) (c_X0_leastGap l G (sl7_6 hr1) h _ hq) (cwV 0 C.2.2.2.2.2.1 (gU_V mw1200 mw1201 mw1202 mw77 mw1203) rfl rfl rfl (by decide +kernel) ⟨Nat.le_of_ble_eq_true rfl, Nat.le_of_ble_eq_true rfl⟩) (k_preV hK hW (shC_lt (sl7_6 hr1) (by decide)) (ceC_0 (sl7_6 hr1)) (q := (RX0, TX0, 3)) rfl) rfl rfl hl.1 rfl (lv_room (Nat.le_of_ble_eq_true rfl)) dX11_allTold_7 ⟨Nat.le_refl 0, Nat.le_refl 0⟩) (fun r3 h2 H locs hq hW => ?_)
  refine lv_if_eq (tgt := 17) hx hb dX11_allTold_10 (by decide) (fun c4 => ?_) (fun c4 => ?_)
  · have hq := hq.1 c4
    refine lv_iconst (v := 0) hx hb dX11_allTold_17 (by decide) ?_
    exact k_zret rfl isZ_0.1 C hW dX11_allTold_18 hq
  · have hq := hq.2 c4
    refine lv_iconst (v := 1) hx hb dX11_allTold_13 (by decide) ?_
    refine lv_goto (tgt := 18) hx hb dX11_allTold_14 (by decide) ?_
    exact k_zret rfl isZ_1.1 C hW dX11_allTold_18 hq
theorem c_X11_allTold (l : Launch) (G : wG) (h : hp) (Q : Int32 → hp → Prop) (hq : w_X11_allTold h Q) : ctI l SC G yX11_allTold wUX11_allTold rmX11_allTold h [.ref (G.2.2 0)] Q := by
  refine k_start (cc := cX11_allTold) (maxL := 1) (rt := (some .boolean)) (own := RX11) (by decide +kernel) rfl rfl (Nat.le_of_ble_eq_true rfl) ?_
  intro p e s m below meth c ls C hK hW hl
  exact k_X11_allTold_0 C hK hW hl hq
theorem k_X11_margin_0 {Q : Int32 → hp → Prop} {h : hp} (C : kC p s m args meth c cX11_margin 1 (some .int) RX11 wUX11_margin) (hK : kK G s) {H : Heap} {locs : List Loc} {ls : Array Slot} (hW : kW SC G h (aS SC G) s H locs) (hl : lv_has ls 1 [(0, .ref (G.2.2 0))]) (hq : w_X11_margin_0 Q h) : W p l e rmX11_margin s m args below meth c H locs 0 0 (MQ below (va_Qi Q (kB SC G) (aS SC G)) args s 0 0 (aS SC G)) (F0 m 0 ls []) := by
  have hx := C.1
  have hb := C.2.1
  unfold w_X11_margin_0 at hq
  refine lv_aload_n hx hb dX11_margin_0 rfl (lv_at hl 0 rfl) ?_
  refine gt11_4 C hK hW (rfl : shC 0 = 11) (List.mem_cons_of_mem _ mw24) (fun _ h9 => List.mem_cons_of_mem _ (inU_wsX110 _ h9)) dX11_margin_1 ?_
  have hr1 := hq.1
  have hq := hq.2
  refine gt7_6 C hK hW hr1 (List.mem_cons_of_mem _ mw1166) (fun _ h9 => List.mem_cons_of_mem _ (inU_wsX70 _ h9)) dX11_margin_4 ?_
  refine k_ci hW (va_runV (As := []) (rest := []) (k_fix C) (c_X0_leastGap l G (sl7_6 hr1) h _ hq) (cwV 0 C.2.2.2.2.2.1 (gU_V mw1200 mw1201 mw1202 mw77 mw1203) rfl rfl rfl (by decide +kernel) ⟨Nat.le_of_ble_eq_true rfl, Nat.le_of_ble_eq_true rfl⟩) (k_preV hK hW (shC_lt (sl7_6 hr1) (by decide)) (ceC_0 (sl7_6 hr1)) (q := (RX0, TX0, 3)) rfl) rfl rfl hl.1 rfl (lv_room (Nat.le_of_ble_eq_true rfl)) dX11_margin_7 ⟨Nat.le_refl 0, Nat.le_refl 0⟩) (fun r3 h2 H locs hq hW => ?_)
  exact k_iret rfl C hW dX11_margin_10 hq
theorem c_X11_margin (l : Launch) (G : wG) (h : hp) (Q : Int32 → hp → Prop) (hq : w_X11_margin h Q) : ctI l SC G yX11_margin wUX11_margin rmX11_margin h [.ref (G.2.2 0)] Q := by
  refine k_start (cc := cX11_margin) (maxL := 1) (rt := (some .int)) (own := RX11) (by decide +kernel) rfl rfl (Nat.le_of_ble_eq_true rfl) ?_
  intro p e s m below meth c ls C hK hW hl
  exact k_X11_margin_0 C hK hW hl hq
theorem k_X11_shareRow_0 {Q : Int32 → hp → Prop} {x1 : Int32} {x2 : Int32} {h : hp} (C : kC p s m args meth c cX11_shareRow 3 (some .int) RX11 wUX11_shareRow) (hK : kK G s) {H : Heap} {locs : List Loc} {ls : Array Slot} (hW : kW SC G h (aS SC G) s H locs) (hl : lv_has ls 3 [(0, .ref (G.2.2 0)), (1, .int x1), (2, .int x2)]) (hq : w_X11_shareRow_0 Q x1 x2 h) : W p l e rmX11_shareRow s m args below meth c H locs 0 0 (MQ below (va_Qi Q (kB SC G) (aS SC G)) args s 0 0 (aS SC G)) (F0 m 0 ls []) := by
  have hx := C.1
  have hb := C.2.1
  unfold w_X11_shareRow_0 at hq
  refine lv_aload_n hx hb dX11_shareRow_0 rfl (lv_at hl 0 rfl) ?_
  refine gt11_4 C hK hW (rfl : shC 0 = 11) (List.mem_cons_of_mem _ mw24) (fun _ h9 => List.mem_cons_of_mem _ (inU_wsX110 _ h9)) dX11_shareRow_1 ?_
  have hr1 := hq.1
  have hq := hq.2
  refine gt7_5 C hK hW hr1 (List.mem_cons_of_mem _ mw1224) (fun _ h9 => List.mem_cons_of_mem _ (inU_wsX70 _ h9)) dX11_shareRow_4 ?_
  refine lv_iload_n hx hb dX11_shareRow_7 rfl (lv_at hl 1 rfl) ?_
  refine k_ci hW (va_runV (As := [.int x1]) (rest := []) (k_fix C) (c_X6_isSet l G (sl7_5 hr1) h x1 _ hq) (cwV 1 C.2.2.2.2.2.1 (gU_V mw1226 mw1227 mw1228 mw73 mw1229) rfl rfl rfl (by decide +kernel) ⟨Nat.le_of_ble_eq_true rfl, Nat.le_of_ble_eq_true rfl⟩) (k_preV hK hW (shC_lt (sl7_5 hr1) (by decide)) (ceC_6 (sl7_5 hr1)) (q := (RX6, TX6, 7)) rfl) rfl rfl hl.1 rfl (lv_room (Nat.le_of_ble_eq_true rfl)) dX11_shareRow_8 ⟨Nat.le_refl 0, Nat.le_refl 0⟩) (fun r2 h3 H locs hq hW => ?_)
  rw [hq.1] at hW
  have hq := hq.2
  refine lv_if_eq (tgt := 26) hx hb dX11_shareRow_11 (by decide) (fun c4 => ?_) (fun c4 => ?_)
  · have hq := hq.1 c4
    refine lv_iconst (v := (-1)) hx hb dX11_shareRow_26 (by decide) ?_
    exact k_iret rfl C hW dX11_shareRow_27 hq
  · have hq := hq.2 c4
    refine lv_iload_n hx hb dX11_shareRow_14 rfl (lv_at hl 2 rfl) ?_
    refine lv_if_lt (tgt := 26) hx hb dX11_shareRow_15 (by decide) (fun c5 => ?_) (fun c5 => ?_)
    · have hq := hq.1 c5
      refine lv_iconst (v := (-1)) hx hb dX11_shareRow_26 (by decide) ?_
      exact k_iret rfl C hW dX11_shareRow_27 hq
    · have hq := hq.2 c5
      refine lv_iload_n hx hb dX11_shareRow_18 rfl (lv_at hl 2 rfl) ?_
      refine lv_iload_n hx hb dX11_shareRow_19 rfl (lv_at hl 1 rfl) ?_
      refine k_ci hW (va_runS (As := [.int x1]) (rest := [.int x2]) (k_fix C) (c_J6_bitCount_0f7a4 l G h x1 _ hq) (va_cwS 1 C.2.2.2.2.2.1 (gU_S mw1237 mw1231 mw1232 mw1233) rfl rfl rfl (by decide +kernel) ⟨Nat.le_of_ble_eq_true rfl, Nat.le_of_ble_eq_true rfl⟩) (k_preS hK hW) rfl rfl hl.1 rfl (lv_room (Nat.le_of_ble_eq_true rfl)) dX11_shareRow_20 ⟨Nat.le_refl 0, Nat.le_refl 0⟩) (fun r6 h7 H locs hq hW => ?_)
      rw [hq.1] at hW
      have hq := hq.2
      refine lv_icmp_lt (tgt := 28) hx hb dX11_shareRow_23 (by decide) (fun c8 => ?_) (fun c8 => ?_)
      · have hq := hq.1 c8
        refine lv_aload_n hx hb dX11_shareRow_28 rfl (lv_at hl 0 rfl) ?_
        refine gt11_4 C hK hW (rfl : shC 0 = 11) (List.mem_cons_of_mem _ mw24) (fun _ h9 => List.mem_cons_of_mem _ (inU_wsX110 _ h9)) dX11_shareRow_29 ?_
        have hr9 := hq.1
        have hq := hq.2
        refine gt7_5 C hK hW hr9 (List.mem_cons_of_mem _ mw1224) (fun _ h9 => List.mem_cons_of_mem _ (inU_wsX70 _ h9)) dX11_shareRow_32 ?_
        refine lv_iload_n hx hb dX11_shareRow_35 rfl (lv_at hl 1 rfl) ?_
        refine k_cv hW (va_runV (As := [.int x1]) (rest := []) (k_fix C) (c_X6_findRow l G (sl7_5 hr9) h x1 _ hq) (cwV 1 C.2.2.2.2.2.1 (gU_V mw1238 mw1239 mw1240 mw73 mw1241) rfl rfl rfl (by decide +kernel) ⟨Nat.le_of_ble_eq_true rfl, Nat.le_of_ble_eq_true rfl⟩) (k_preV hK hW (shC_lt (sl7_5 hr9) (by decide)) (ceC_6 (sl7_5 hr9)) (q := (RX6, TX6, 7)) rfl) rfl rfl hl.1 rfl (lv_room (Nat.le_of_ble_eq_true rfl)) dX11_shareRow_36 ⟨Nat.le_refl 0, Nat.le_refl 0⟩) (fun h10 H locs hq hW => ?_)
        refine lv_aload_n hx hb dX11_shareRow_39 rfl (lv_at hl 0 rfl) ?_
        refine gt11_4 C hK hW (rfl : shC 0 = 11) (List.mem_cons_of_mem _ mw24) (fun _ h9 => List.mem_cons_of_mem _ (inU_wsX110 _ h9)) dX11_shareRow_40 ?_
        have hr11 := hq.1
        have hq := hq.2
        refine gt7_5 C hK hW hr11 (List.mem_cons_of_mem _ mw1224) (fun _ h9 => List.mem_cons_of_mem _ (inU_wsX70 _ h9)) dX11_shareRow_43 ?_
        refine gt6_5 C hK hW (sl7_5 hr11) (List.mem_cons_of_mem _ mw1225) (fun _ h9 => List.mem_cons_of_mem _ (inU_wsX60 _ h9)) dX11_shareRow_46 ?_
        refine lv_iload_n hx hb dX11_shareRow_49 rfl (lv_at hl 2 rfl) ?_
        refine k_iald C hK hW (shC_lt (sl6_5 (sl7_5 hr11)).1 (by decide)) (ceC_14 (sl6_5 (sl7_5 hr11)).1 (sl6_5 (sl7_5 hr11)).2) hq.1 dX11_shareRow_50 ?_
        have hq := hq.2
        exact k_iret rfl C hW dX11_shareRow_51 hq
      · have hq := hq.2 c8
        refine lv_iconst (v := (-1)) hx hb dX11_shareRow_26 (by decide) ?_
        exact k_iret rfl C hW dX11_shareRow_27 hq
theorem c_X11_shareRow (l : Launch) (G : wG) (h : hp) (x1 : Int32) (x2 : Int32) (Q : Int32 → hp → Prop) (hq : w_X11_shareRow h x1 x2 Q) : ctI l SC G yX11_shareRow wUX11_shareRow rmX11_shareRow h [.ref (G.2.2 0), .int x1, .int x2] Q := by
  refine k_start (cc := cX11_shareRow) (maxL := 3) (rt := (some .int)) (own := RX11) (by decide +kernel) rfl rfl (Nat.le_of_ble_eq_true rfl) ?_
  intro p e s m below meth c ls C hK hW hl
  exact k_X11_shareRow_0 C hK hW hl hq
theorem k_X11_secret_0 {Q : Int32 → hp → Prop} {x1 : Int32} {h : hp} (C : kC p s m args meth c cX11_secret 2 (some .int) RX11 wUX11_secret) (hK : kK G s) {H : Heap} {locs : List Loc} {ls : Array Slot} (hW : kW SC G h (aS SC G) s H locs) (hl : lv_has ls 2 [(0, .ref (G.2.2 0)), (1, .int x1)]) (hq : w_X11_secret_0 Q x1 h) : W p l e rmX11_secret s m args below meth c H locs 0 0 (MQ below (va_Qi Q (kB SC G) (aS SC G)) args s 0 0 (aS SC G)) (F0 m 0 ls []) := by
  have hx := C.1
  have hb := C.2.1
  unfold w_X11_secret_0 at hq
  refine lv_aload_n hx hb dX11_secret_0 rfl (lv_at hl 0 rfl) ?_
  refine lv_iload_n hx hb dX11_secret_1 rfl (lv_at hl 1 rfl) ?_
  refine lv_iconst (v := 0) hx hb dX11_secret_2 (by decide) ?_
  refine k_ci hW (va_runV (As := [.int x1, .int 0]) (rest := []) (k_fix C) (c_X11_shareRow l G h x1 0 _ hq) (cwV 2 C.2.2.2.2.2.1 (gU_V mw1220 mw1221 mw1222 mw2 mw1223) rfl rfl rfl (by decide +kernel) ⟨Nat.le_of_ble_eq_true rfl, Nat.le_of_ble_eq_true rfl⟩) (k_preV hK hW (shC_lt (rfl : shC 0 = 11) (by decide)) (ceC_11 (rfl : shC 0 = 11)) (q := (RX11, TX11, 11)) rfl) rfl rfl hl.1 rfl (lv_room (Nat.le_of_ble_eq_true rfl)) dX11_secret_3 ⟨Nat.le_refl 0, Nat.le_refl 0⟩) (fun r2 h1 H locs hq hW => ?_)
  exact k_iret rfl C hW dX11_secret_6 hq
theorem c_X11_secret (l : Launch) (G : wG) (h : hp) (x1 : Int32) (Q : Int32 → hp → Prop) (hq : w_X11_secret h x1 Q) : ctI l SC G yX11_secret wUX11_secret rmX11_secret h [.ref (G.2.2 0), .int x1] Q := by
  refine k_start (cc := cX11_secret) (maxL := 2) (rt := (some .int)) (own := RX11) (by decide +kernel) rfl rfl (Nat.le_of_ble_eq_true rfl) ?_
  intro p e s m below meth c ls C hK hW hl
  exact k_X11_secret_0 C hK hW hl hq
theorem k_X11_shared_0 {Q : Int32 → hp → Prop} {x1 : Int32} {x2 : Int32} {h : hp} (C : kC p s m args meth c cX11_shared 3 (some .int) RX11 wUX11_shared) (hK : kK G s) {H : Heap} {locs : List Loc} {ls : Array Slot} (hW : kW SC G h (aS SC G) s H locs) (hl : lv_has ls 3 [(0, .ref (G.2.2 0)), (1, .int x1), (2, .int x2)]) (hq : w_X11_shared_0 Q x1 x2 h) : W p l e rmX11_shared s m args below meth c H locs 0 0 (MQ below (va_Qi Q (kB SC G) (aS SC G)) args s 0 0 (aS SC G)) (F0 m 0 ls []) := by
  have hx := C.1
  have hb := C.2.1
  unfold w_X11_shared_0 at hq
  refine lv_aload_n hx hb dX11_shared_0 rfl (lv_at hl 0 rfl) ?_
  refine gt11_4 C hK hW (rfl : shC 0 = 11) (List.mem_cons_of_mem _ mw24) (fun _ h9 => List.mem_cons_of_mem _ (inU_wsX110 _ h9)) dX11_shared_1 ?_
  have hr1 := hq.1
  have hq := hq.2
  refine gt7_5 C hK hW hr1 (List.mem_cons_of_mem _ mw1224) (fun _ h9 => List.mem_cons_of_mem _ (inU_wsX70 _ h9)) dX11_shared_4 ?_
  refine lv_iload_n hx hb dX11_shared_7 rfl (lv_at hl 1 rfl) ?_
  refine k_ci hW (va_runV (As := [.int x1]) (rest := []) (k_fix C) (c_X6_isSet l G (sl7_5 hr1) h x1 _ hq) (cwV 1 C.2.2.2.2.2.1 (gU_V mw1226 mw1227 mw1228 mw73 mw1229) rfl rfl rfl (by decide +kernel) ⟨Nat.le_of_ble_eq_true rfl, Nat.le_of_ble_eq_true rfl⟩) (k_preV hK hW (shC_lt (sl7_5 hr1) (by decide)) (ceC_6 (sl7_5 hr1)) (q := (RX6, TX6, 7)) rfl) rfl rfl hl.1 rfl (lv_room (Nat.le_of_ble_eq_true rfl)) dX11_shared_8 ⟨Nat.le_refl 0, Nat.le_refl 0⟩) (fun r2 h3 H locs hq hW => ?_)
  rw [hq.1] at hW
  have hq := hq.2
  refine lv_if_eq (tgt := 26) hx hb dX11_shared_11 (by decide) (fun c4 => ?_) (fun c4 => ?_)
  · have hq := hq.1 c4
    refine lv_iconst (v := (-1)) hx hb dX11_shared_26 (by decide) ?_
    exact k_iret rfl C hW dX11_shared_27 hq
  · have hq := hq.2 c4
    refine lv_iload_n hx hb dX11_shared_14 rfl (lv_at hl 2 rfl) ?_
    refine lv_i2l (v := x2.toInt64) hx hb dX11_shared_15 rfl ?_
    refine lv_lconst (v := 0) hx hb dX11_shared_16 (by decide) ?_
    refine lv_ldc2 (v := 96) hx hb C.2.2.2.2.1 (C.2.2.2.2.2.1 _ (List.mem_cons_of_mem _ mw1289)) dX11_shared_17 ?_
    refine k_ci hW (va_runS (As := [.long (x2.toInt64), .long 0, .long 96]) (rest := []) (k_fix C) (c_X11_within l G h (x2.toInt64) 0 96 _ hq) (va_cwS 3 C.2.2.2.2.2.1 (gU_S mw780 mw446 mw2 mw447) rfl rfl rfl (by decide +kernel) ⟨Nat.le_of_ble_eq_true rfl, Nat.le_of_ble_eq_true rfl⟩) (k_preS hK hW) rfl rfl hl.1 rfl (lv_room (Nat.le_of_ble_eq_true rfl)) dX11_shared_20 ⟨Nat.le_refl 0, Nat.le_refl 0⟩) (fun r5 h6 H locs hq hW => ?_)
    rw [hq.1] at hW
    have hq := hq.2
    refine lv_if_ne (tgt := 28) hx hb dX11_shared_23 (by decide) (fun c7 => ?_) (fun c7 => ?_)
    · have hq := hq.1 c7
      refine lv_aload_n hx hb dX11_shared_28 rfl (lv_at hl 0 rfl) ?_
      refine gt11_4 C hK hW (rfl : shC 0 = 11) (List.mem_cons_of_mem _ mw24) (fun _ h9 => List.mem_cons_of_mem _ (inU_wsX110 _ h9)) dX11_shared_29 ?_
      have hr8 := hq.1
      have hq := hq.2
      refine gt7_5 C hK hW hr8 (List.mem_cons_of_mem _ mw1224) (fun _ h9 => List.mem_cons_of_mem _ (inU_wsX70 _ h9)) dX11_shared_32 ?_
      refine lv_iload_n hx hb dX11_shared_35 rfl (lv_at hl 1 rfl) ?_
      refine k_cv hW (va_runV (As := [.int x1]) (rest := []) (k_fix C) (c_X6_findRow l G (sl7_5 hr8) h x1 _ hq) (cwV 1 C.2.2.2.2.2.1 (gU_V mw1238 mw1239 mw1240 mw73 mw1241) rfl rfl rfl (by decide +kernel) ⟨Nat.le_of_ble_eq_true rfl, Nat.le_of_ble_eq_true rfl⟩) (k_preV hK hW (shC_lt (sl7_5 hr8) (by decide)) (ceC_6 (sl7_5 hr8)) (q := (RX6, TX6, 7)) rfl) rfl rfl hl.1 rfl (lv_room (Nat.le_of_ble_eq_true rfl)) dX11_shared_36 ⟨Nat.le_refl 0, Nat.le_refl 0⟩) (fun h9 H locs hq hW => ?_)
      refine lv_aload_n hx hb dX11_shared_39 rfl (lv_at hl 0 rfl) ?_
      refine gt11_4 C hK hW (rfl : shC 0 = 11) (List.mem_cons_of_mem _ mw24) (fun _ h9 => List.mem_cons_of_mem _ (inU_wsX110 _ h9)) dX11_shared_40 ?_
      have hr10 := hq.1
      have hq := hq.2
      refine gt7_5 C hK hW hr10 (List.mem_cons_of_mem _ mw1224) (fun _ h9 => List.mem_cons_of_mem _ (inU_wsX70 _ h9)) dX11_shared_43 ?_
      refine lv_iload_n hx hb dX11_shared_46 rfl (lv_at hl 2 rfl) ?_
      refine k_ci hW (va_runV (As := [.int x2]) (rest := []) (k_fix C) (c_X6_comesTo l G (sl7_5 hr10) h9 x2 _ hq) (cwV 1 C.2.2.2.2.2.1 (gU_V mw1290 mw1291 mw1292 mw73 mw1293) rfl rfl rfl (by decide +kernel) ⟨Nat.le_of_ble_eq_true rfl, Nat.le_of_ble_eq_true rfl⟩) (k_preV hK hW (shC_lt (sl7_5 hr10) (by decide)) (ceC_6 (sl7_5 hr10)) (q := (RX6, TX6, 7)) rfl) rfl rfl hl.1 rfl (lv_room (Nat.le_of_ble_eq_true rfl)) dX11_shared_47 ⟨Nat.le_refl 0, Nat.le_refl 0⟩) (fun r11 h12 H locs hq hW => ?_)
      rw [hq.1] at hW
      have hq := hq.2
      exact k_iret rfl C hW dX11_shared_50 hq
    · have hq := hq.2 c7
      refine lv_iconst (v := (-1)) hx hb dX11_shared_26 (by decide) ?_
      exact k_iret rfl C hW dX11_shared_27 hq
theorem c_X11_shared (l : Launch) (G : wG) (h : hp) (x1 : Int32) (x2 : Int32) (Q : Int32 → hp → Prop) (hq : w_X11_shared h x1 x2 Q) : ctI l SC G yX11_shared wUX11_shared rmX11_shared h [.ref (G.2.2 0), .int x1, .int x2] Q := by
  refine k_start (cc := cX11_shared) (maxL := 3) (rt := (some .int)) (own := RX11) (by decide +kernel) rfl rfl (Nat.le_of_ble_eq_true rfl) ?_
  intro p e s m below meth c ls C hK hW hl
  exact k_X11_shared_0 C hK hW hl hq
theorem k_X11_wrong_0 {Q : Int32 → hp → Prop} {x1 : Int32} {h : hp} (C : kC p s m args meth c cX11_wrong 2 (some .int) RX11 wUX11_wrong) (hK : kK G s) {H : Heap} {locs : List Loc} {ls : Array Slot} (hW : kW SC G h (aS SC G) s H locs) (hl : lv_has ls 2 [(0, .ref (G.2.2 0)), (1, .int x1)]) (hq : w_X11_wrong_0 Q x1 h) : W p l e rmX11_wrong s m args below meth c H locs 0 0 (MQ below (va_Qi Q (kB SC G) (aS SC G)) args s 0 0 (aS SC G)) (F0 m 0 ls []) := by
  have hx := C.1
  have hb := C.2.1
  unfold w_X11_wrong_0 at hq
  refine lv_iload_n hx hb dX11_wrong_0 rfl (lv_at hl 1 rfl) ?_
  refine lv_i2l (v := x1.toInt64) hx hb dX11_wrong_1 rfl ?_
  refine lv_lconst (v := 1) hx hb dX11_wrong_2 (by decide) ?_
  refine lv_ldc2 (v := 6) hx hb C.2.2.2.2.1 (C.2.2.2.2.2.1 _ (List.mem_cons_of_mem _ mw837)) dX11_wrong_3 ?_
  refine k_ci hW (va_runS (As := [.long (x1.toInt64), .long 1, .long 6]) (rest := []) (k_fix C) (c_X11_within l G h (x1.toInt64) 1 6 _ hq) (va_cwS 3 C.2.2.2.2.2.1 (gU_S mw780 mw446 mw2 mw447) rfl rfl rfl (by decide +kernel) ⟨Nat.le_of_ble_eq_true rfl, Nat.le_of_ble_eq_true rfl⟩) (k_preS hK hW) rfl rfl hl.1 rfl (lv_room (Nat.le_of_ble_eq_true rfl)) dX11_wrong_6 ⟨Nat.le_refl 0, Nat.le_refl 0⟩) (fun r1 h2 H locs hq hW => ?_)
  rw [hq.1] at hW
  have hq := hq.2
  refine lv_if_ne (tgt := 14) hx hb dX11_wrong_9 (by decide) (fun c3 => ?_) (fun c3 => ?_)
  · have hq := hq.1 c3
    refine lv_iload_n hx hb dX11_wrong_14 rfl (lv_at hl 1 rfl) ?_
    refine lv_aload_n hx hb dX11_wrong_15 rfl (lv_at hl 0 rfl) ?_
    refine gt11_4 C hK hW (rfl : shC 0 = 11) (List.mem_cons_of_mem _ mw24) (fun _ h9 => List.mem_cons_of_mem _ (inU_wsX110 _ h9)) dX11_wrong_16 ?_
    have hr4 := hq.1
    have hq := hq.2
    refine gt7_5 C hK hW hr4 (List.mem_cons_of_mem _ mw1224) (fun _ h9 => List.mem_cons_of_mem _ (inU_wsX70 _ h9)) dX11_wrong_19 ?_
    refine gt6_0 C hK hW (sl7_5 hr4) (List.mem_cons_of_mem _ mw1303) (fun _ h9 => List.mem_cons_of_mem _ (inU_wsX60 _ h9)) dX11_wrong_22 ?_
    refine lv_icmp_le (tgt := 33) hx hb dX11_wrong_25 (by decide) (fun c5 => ?_) (fun c5 => ?_)
    · have hq := hq.1 c5
      refine lv_aload_n hx hb dX11_wrong_33 rfl (lv_at hl 0 rfl) ?_
      refine gt11_4 C hK hW (rfl : shC 0 = 11) (List.mem_cons_of_mem _ mw24) (fun _ h9 => List.mem_cons_of_mem _ (inU_wsX110 _ h9)) dX11_wrong_34 ?_
      have hr6 := hq.1
      have hq := hq.2
      refine gt7_5 C hK hW hr6 (List.mem_cons_of_mem _ mw1224) (fun _ h9 => List.mem_cons_of_mem _ (inU_wsX70 _ h9)) dX11_wrong_37 ?_
      refine lv_iload_n hx hb dX11_wrong_40 rfl (lv_at hl 1 rfl) ?_
      refine k_ci hW (va_runV (As := [.int x1]) (rest := []) (k_fix C) (c_X6_offRow l G (sl7_5 hr6) h x1 _ hq) (cwV 1 C.2.2.2.2.2.1 (gU_V mw1304 mw1305 mw1306 mw73 mw1307) rfl rfl rfl (by decide +kernel) ⟨Nat.le_of_ble_eq_true rfl, Nat.le_of_ble_eq_true rfl⟩) (k_preV hK hW (shC_lt (sl7_5 hr6) (by decide)) (ceC_6 (sl7_5 hr6)) (q := (RX6, TX6, 7)) rfl) rfl rfl hl.1 rfl (lv_room (Nat.le_of_ble_eq_true rfl)) dX11_wrong_41 ⟨Nat.le_refl 0, Nat.le_refl 0⟩) (fun r8 h7 H locs hq hW => ?_)
      exact k_iret rfl C hW dX11_wrong_44 hq
    · have hq := hq.2 c5
      refine lv_bipush (v := (-2)) hx hb dX11_wrong_28 (by decide) ?_
      refine lv_goto (tgt := 44) hx hb dX11_wrong_30 (by decide) ?_
      exact k_iret rfl C hW dX11_wrong_44 hq
  · have hq := hq.2 c3
    refine lv_iconst (v := (-1)) hx hb dX11_wrong_12 (by decide) ?_
    exact k_iret rfl C hW dX11_wrong_13 hq
theorem c_X11_wrong (l : Launch) (G : wG) (h : hp) (x1 : Int32) (Q : Int32 → hp → Prop) (hq : w_X11_wrong h x1 Q) : ctI l SC G yX11_wrong wUX11_wrong rmX11_wrong h [.ref (G.2.2 0), .int x1] Q := by
  refine k_start (cc := cX11_wrong) (maxL := 2) (rt := (some .int)) (own := RX11) (by decide +kernel) rfl rfl (Nat.le_of_ble_eq_true rfl) ?_
  intro p e s m below meth c ls C hK hW hl
  exact k_X11_wrong_0 C hK hW hl hq
theorem k_X11_triangle_0 {Q : Int64 → Prop} {x0 : Int64} {h : hp} (C : kC p s m args meth c cX11_triangle 2 (some .long) RX11 wUX11_triangle) (hK : kK G s) {H : Heap} {locs : List Loc} {ls : Array Slot} (hW : kW SC G h (aS SC G) s H locs) (hl : lv_has ls 2 [(0, .long x0)]) (hq : w_X11_triangle_0 Q x0) : W p l e rmX11_triangle s m args below meth c H locs 0 0 (MQ below (va_Ql (fun r9 h9 => h9 = h ∧ Q r9) (kB SC G) (aS SC G)) args s 0 0 (aS SC G)) (F0 m 0 ls []) := by
  have hx := C.1
  have hb := C.2.1
  unfold w_X11_triangle_0 at hq
  refine lv_lload_n hx hb dX11_triangle_0 rfl (lv_at hl 0 rfl) ?_
  refine lv_lload_n hx hb dX11_triangle_1 rfl (lv_at hl 0 rfl) ?_
  refine lv_lconst (v := 1) hx hb dX11_triangle_2 (by decide) ?_
  refine lv_ladd hx hb dX11_triangle_3 ?_
  refine lv_lmul hx hb dX11_triangle_4 ?_
  refine lv_ldc2 (v := 2) hx hb C.2.2.2.2.1 (C.2.2.2.2.2.1 _ (List.mem_cons_of_mem _ mw835)) dX11_triangle_5 ?_
  refine lv_ldiv hx hb dX11_triangle_8 (by decide) ?_
  exact k_lret rfl C hW dX11_triangle_9 ⟨rfl, hq⟩
theorem c_X11_triangle (l : Launch) (G : wG) (h : hp) (x0 : Int64) (Q : Int64 → Prop) (hq : w_X11_triangle x0 Q) : ctL l SC G yX11_triangle wUX11_triangle rmX11_triangle h [.long x0] (fun r9 h9 => h9 = h ∧ Q r9) := by
  refine k_start (cc := cX11_triangle) (maxL := 2) (rt := (some .long)) (own := RX11) (by decide +kernel) rfl rfl (Nat.le_of_ble_eq_true rfl) ?_
  intro p e s m below meth c ls C hK hW hl
  exact k_X11_triangle_0 C hK hW hl hq
theorem k_X11_paired_0 {Q : Int64 → Prop} {x0 : Int64} {x2 : Int64} {h : hp} (C : kC p s m args meth c cX11_paired 4 (some .long) RX11 wUX11_paired) (hK : kK G s) {H : Heap} {locs : List Loc} {ls : Array Slot} (hW : kW SC G h (aS SC G) s H locs) (hl : lv_has ls 4 [(0, .long x0), (2, .long x2)]) (hq : w_X11_paired_0 Q x0 x2) : W p l e rmX11_paired s m args below meth c H locs 0 0 (MQ below (va_Ql (fun r9 h9 => h9 = h ∧ Q r9) (kB SC G) (aS SC G)) args s 0 0 (aS SC G)) (F0 m 0 ls []) := by
  have hx := C.1
  have hb := C.2.1
  unfold w_X11_paired_0 at hq
  refine lv_lload_n hx hb dX11_paired_0 rfl (lv_at hl 0 rfl) ?_
  refine lv_lload_n hx hb dX11_paired_1 rfl (lv_at hl 1 rfl) ?_
  refine lv_ladd hx hb dX11_paired_2 ?_
  refine k_cl hW (va_runS (As := [.long (x0 + x2)]) (rest := []) (k_fix C) (c_X11_triangle l G h (x0 + x2) _ hq) (va_cwS 1 C.2.2.2.2.2.1 (gU_S mw1491 mw1492 mw2 mw1493) rfl rfl rfl (by decide +kernel) ⟨Nat.le_of_ble_eq_true rfl, Nat.le_of_ble_eq_true rfl⟩) (k_preS hK hW) rfl rfl hl.1 rfl (lv_room (Nat.le_of_ble_eq_true rfl)) dX11_paired_3 ⟨Nat.le_refl 0, Nat.le_refl 0⟩) (fun r1 h2 H locs hq hW => ?_)
  rw [hq.1] at hW
  have hq := hq.2
  refine lv_lload_n hx hb dX11_paired_6 rfl (lv_at hl 1 rfl) ?_
  refine lv_ladd hx hb dX11_paired_7 ?_
  exact k_lret rfl C hW dX11_paired_8 ⟨rfl, hq⟩
theorem c_X11_paired (l : Launch) (G : wG) (h : hp) (x0 : Int64) (x2 : Int64) (Q : Int64 → Prop) (hq : w_X11_paired x0 x2 Q) : ctL l SC G yX11_paired wUX11_paired rmX11_paired h [.long x0, .long x2] (fun r9 h9 => h9 = h ∧ Q r9) := by
  refine k_start (cc := cX11_paired) (maxL := 4) (rt := (some .long)) (own := RX11) (by decide +kernel) rfl rfl (Nat.le_of_ble_eq_true rfl) ?_
  intro p e s m below meth c ls C hK hW hl
  exact k_X11_paired_0 C hK hW hl hq
theorem k_X11_pair_0 {Q : Int64 → Prop} {x1 : Int32} {x2 : Int32} {h : hp} (C : kC p s m args meth c cX11_pair 3 (some .long) RX11 wUX11_pair) (hK : kK G s) {H : Heap} {locs : List Loc} {ls : Array Slot} (hW : kW SC G h (aS SC G) s H locs) (hl : lv_has ls 3 [(0, .ref (G.2.2 0)), (1, .int x1), (2, .int x2)]) (hq : w_X11_pair_0 Q x1 x2) : W p l e rmX11_pair s m args below meth c H locs 0 0 (MQ below (va_Ql (fun r9 h9 => h9 = h ∧ Q r9) (kB SC G) (aS SC G)) args s 0 0 (aS SC G)) (F0 m 0 ls []) := by
  have hx := C.1
  have hb := C.2.1
  unfold w_X11_pair_0 at hq
  refine lv_iload_n hx hb dX11_pair_0 rfl (lv_at hl 1 rfl) ?_
  refine lv_i2l (v := x1.toInt64) hx hb dX11_pair_1 rfl ?_
  refine lv_lconst (v := 0) hx hb dX11_pair_2 (by decide) ?_
  refine lv_ldc2 (v := 999999999) hx hb C.2.2.2.2.1 (C.2.2.2.2.2.1 _ (List.mem_cons_of_mem _ mw1487)) dX11_pair_3 ?_
  refine k_ci hW (va_runS (As := [.long (x1.toInt64), .long 0, .long 999999999]) (rest := []) (k_fix C) (c_X11_within l G h (x1.toInt64) 0 999999999 _ hq) (va_cwS 3 C.2.2.2.2.2.1 (gU_S mw780 mw446 mw2 mw447) rfl rfl rfl (by decide +kernel) ⟨Nat.le_of_ble_eq_true rfl, Nat.le_of_ble_eq_true rfl⟩) (k_preS hK hW) rfl rfl hl.1 rfl (lv_room (Nat.le_of_ble_eq_true rfl)) dX11_pair_6 ⟨Nat.le_refl 0, Nat.le_refl 0⟩) (fun r1 h2 H locs hq hW => ?_)
  rw [hq.1] at hW
  have hq := hq.2
  refine lv_if_eq (tgt := 24) hx hb dX11_pair_9 (by decide) (fun c3 => ?_) (fun c3 => ?_)
  · have hq := hq.1 c3
    refine lv_ldc2 (v := (-1)) hx hb C.2.2.2.2.1 (C.2.2.2.2.2.1 _ (List.mem_cons_of_mem _ mw802)) dX11_pair_24 ?_
    exact k_lret rfl C hW dX11_pair_27 ⟨rfl, hq⟩
  · have hq := hq.2 c3
    refine lv_iload_n hx hb dX11_pair_12 rfl (lv_at hl 2 rfl) ?_
    refine lv_i2l (v := x2.toInt64) hx hb dX11_pair_13 rfl ?_
    refine lv_lconst (v := 0) hx hb dX11_pair_14 (by decide) ?_
    refine lv_ldc2 (v := 999999999) hx hb C.2.2.2.2.1 (C.2.2.2.2.2.1 _ (List.mem_cons_of_mem _ mw1487)) dX11_pair_15 ?_
    refine k_ci hW (va_runS (As := [.long (x2.toInt64), .long 0, .long 999999999]) (rest := []) (k_fix C) (c_X11_within l G h (x2.toInt64) 0 999999999 _ hq) (va_cwS 3 C.2.2.2.2.2.1 (gU_S mw780 mw446 mw2 mw447) rfl rfl rfl (by decide +kernel) ⟨Nat.le_of_ble_eq_true rfl, Nat.le_of_ble_eq_true rfl⟩) (k_preS hK hW) rfl rfl hl.1 rfl (lv_room (Nat.le_of_ble_eq_true rfl)) dX11_pair_18 ⟨Nat.le_refl 0, Nat.le_refl 0⟩) (fun r4 h5 H locs hq hW => ?_)
    rw [hq.1] at hW
    have hq := hq.2
    refine lv_if_ne (tgt := 28) hx hb dX11_pair_21 (by decide) (fun c6 => ?_) (fun c6 => ?_)
    · have hq := hq.1 c6
      refine lv_iload_n hx hb dX11_pair_28 rfl (lv_at hl 1 rfl) ?_
      refine lv_i2l (v := x1.toInt64) hx hb dX11_pair_29 rfl ?_
      refine lv_iload_n hx hb dX11_pair_30 rfl (lv_at hl 2 rfl) ?_
      refine lv_i2l (v := x2.toInt64) hx hb dX11_pair_31 rfl ?_
      refine k_cl hW (va_runS (As := [.long (x1.toInt64), .long (x2.toInt64)]) (rest := []) (k_fix C) (c_X11_paired l G h (x1.toInt64) (x2.toInt64) _ hq) (va_cwS 2 C.2.2.2.2.2.1 (gU_S mw1488 mw1489 mw2 mw1490) rfl rfl rfl (by decide +kernel) ⟨Nat.le_of_ble_eq_true rfl, Nat.le_of_ble_eq_true rfl⟩) (k_preS hK hW) rfl rfl hl.1 rfl (lv_room (Nat.le_of_ble_eq_true rfl)) dX11_pair_32 ⟨Nat.le_refl 0, Nat.le_refl 0⟩) (fun r7 h8 H locs hq hW => ?_)
      rw [hq.1] at hW
      have hq := hq.2
      exact k_lret rfl C hW dX11_pair_35 ⟨rfl, hq⟩
    · have hq := hq.2 c6
      refine lv_ldc2 (v := (-1)) hx hb C.2.2.2.2.1 (C.2.2.2.2.2.1 _ (List.mem_cons_of_mem _ mw802)) dX11_pair_24 ?_
      exact k_lret rfl C hW dX11_pair_27 ⟨rfl, hq⟩
theorem c_X11_pair (l : Launch) (G : wG) (h : hp) (x1 : Int32) (x2 : Int32) (Q : Int64 → Prop) (hq : w_X11_pair x1 x2 Q) : ctL l SC G yX11_pair wUX11_pair rmX11_pair h [.ref (G.2.2 0), .int x1, .int x2] (fun r9 h9 => h9 = h ∧ Q r9) := by
  refine k_start (cc := cX11_pair) (maxL := 3) (rt := (some .long)) (own := RX11) (by decide +kernel) rfl rfl (Nat.le_of_ble_eq_true rfl) ?_
  intro p e s m below meth c ls C hK hW hl
  exact k_X11_pair_0 C hK hW hl hq
theorem k_X11_unpair_50 {Q : Int64 → Prop} {X23 : Int64 × Int64 → Prop} {x1 : Int64} {x3 : Int32} {x4 : Int64} {x6 : Int64} {h : hp} (C : kC p s m args meth c cX11_unpair 8 (some .long) RX11 wUX11_unpair) (hK : kK G s) (hX23 : ∀ (x4 : Int64) (x6 : Int64) (H : Heap) (locs : List Loc) (ls : Array Slot), kW SC G h (aS SC G) s H locs → lv_has ls 8 [(1, .long x1), (3, .int x3), (4, .long x4), (6, .long x6)] → X23 (x4, x6) → W p l e rmX11_unpair s m args below meth c H locs 0 0 (MQ below (va_Ql (fun r9 h9 => h9 = h ∧ Q r9) (kB SC G) (aS SC G)) args s 0 0 (aS SC G)) (F0 m 23 ls [])) {H : Heap} {locs : List Loc} {ls : Array Slot} (hW : kW SC G h (aS SC G) s H locs) (hl : lv_has ls 8 [(1, .long x1), (3, .int x3), (4, .long x4), (6, .long x6)]) (hq : w_X11_unpair_50 Q X23 x1 x3 x4 x6) : W p l e rmX11_unpair s m args below meth c H locs 0 0 (MQ below (va_Ql (fun r9 h9 => h9 = h ∧ Q r9) (kB SC G) (aS SC G)) args s 0 0 (aS SC G)) (F0 m 50 ls []) := by
  have hx := C.1
  have hb := C.2.1
  unfold w_X11_unpair_50 at hq
  refine lv_lload hx hb dX11_unpair_50 (lv_at hl 3 rfl) ?_
  refine lv_ldc2 (v := 2) hx hb C.2.2.2.2.1 (C.2.2.2.2.2.1 _ (List.mem_cons_of_mem _ mw835)) dX11_unpair_52 ?_
  refine lv_ldiv hx hb dX11_unpair_55 (by decide) ?_
  refine lv_topl (fun x6_13 ex6_13 => ?_)
  have hq := hq x6_13 ex6_13
  refine lv_lstore (lv' := [(6, .long x6_13), (1, .long x1), (3, .int x3), (4, .long x4)]) hx hb dX11_unpair_56 hl (by decide) rfl (fun ls hl => ?_)
  refine lv_goto (tgt := 23) hx hb dX11_unpair_58 (by decide) ?_
  exact hX23 _ _ _ _ _ hW (lv_sub hl [1, 2, 3, 0] rfl) hq
theorem k_X11_unpair_b23 {Q : Int64 → Prop} {X23 : Int64 × Int64 → Prop} {x1 : Int64} {x3 : Int32} {h : hp} (C : kC p s m args meth c cX11_unpair 8 (some .long) RX11 wUX11_unpair) (hK : kK G s) (hX23 : ∀ (x4 : Int64) (x6 : Int64) (H : Heap) (locs : List Loc) (ls : Array Slot), kW SC G h (aS SC G) s H locs → lv_has ls 8 [(1, .long x1), (3, .int x3), (4, .long x4), (6, .long x6)] → X23 (x4, x6) → W p l e rmX11_unpair s m args below meth c H locs 0 0 (MQ below (va_Ql (fun r9 h9 => h9 = h ∧ Q r9) (kB SC G) (aS SC G)) args s 0 0 (aS SC G)) (F0 m 23 ls [])) {x4 : Int64} {x6 : Int64} {H : Heap} {locs : List Loc} {ls : Array Slot} (hW : kW SC G h (aS SC G) s H locs) (hl : lv_has ls 8 [(1, .long x1), (3, .int x3), (4, .long x4), (6, .long x6)]) (hq : w_X11_unpair_b23 Q x1 x3 X23 x4 x6) : W p l e rmX11_unpair s m args below meth c H locs 0 0 (MQ below (va_Ql (fun r9 h9 => h9 = h ∧ Q r9) (kB SC G) (aS SC G)) args s 0 0 (aS SC G)) (F0 m 23 ls []) := by
  have hx := C.1
  have hb := C.2.1
  unfold w_X11_unpair_b23 at hq
  refine lv_lload hx hb dX11_unpair_23 (lv_at hl 3 rfl) ?_
  refine lv_lconst (v := 0) hx hb dX11_unpair_25 (by decide) ?_
  refine W.lcmp hx hb dX11_unpair_26 ?_
  refine lv_if_le (tgt := 61) hx hb dX11_unpair_27 (by decide) (fun c4 => ?_) (fun c4 => ?_)
  · have hq := hq.1 ((lg_cmp_le _ _).mp c4)
    refine lv_lload_n hx hb dX11_unpair_61 rfl (lv_at hl 0 rfl) ?_
    refine lv_lload hx hb dX11_unpair_62 (lv_at hl 2 rfl) ?_
    refine k_cl hW (va_runS (As := [.long x4]) (rest := [.long x1]) (k_fix C) (c_X11_triangle l G h x4 _ hq) (va_cwS 1 C.2.2.2.2.2.1 (gU_S mw1491 mw1492 mw2 mw1493) rfl rfl rfl (by decide +kernel) ⟨Nat.le_of_ble_eq_true rfl, Nat.le_of_ble_eq_true rfl⟩) (k_preS hK hW) rfl rfl hl.1 rfl (lv_room (Nat.le_of_ble_eq_true rfl)) dX11_unpair_64 ⟨Nat.le_refl 0, Nat.le_refl 0⟩) (fun r5 h6 H locs hq hW => ?_)
    rw [hq.1] at hW
    have hq := hq.2
    refine lv_lsub hx hb dX11_unpair_67 ?_
    refine lv_topl (fun x6_7 ex6_7 => ?_)
    have hq := hq x6_7 ex6_7
    refine lv_lstore (lv' := [(6, .long x6_7), (1, .long x1), (3, .int x3), (4, .long x4)]) hx hb dX11_unpair_68 hl (by decide) rfl (fun ls hl => ?_)
    refine lv_iload_n hx hb dX11_unpair_70 rfl (lv_at hl 2 rfl) ?_
    refine lv_if_eq (tgt := 79) hx hb dX11_unpair_71 (by decide) (fun c8 => ?_) (fun c8 => ?_)
    · have hq := hq.1 c8
      refine lv_lload hx hb dX11_unpair_79 (lv_at hl 3 rfl) ?_
      refine lv_lload hx hb dX11_unpair_81 (lv_at hl 0 rfl) ?_
      refine lv_lsub hx hb dX11_unpair_83 ?_
      exact k_lret rfl C hW dX11_unpair_84 ⟨rfl, hq⟩
    · have hq := hq.2 c8
      refine lv_lload hx hb dX11_unpair_74 (lv_at hl 0 rfl) ?_
      refine lv_goto (tgt := 84) hx hb dX11_unpair_76 (by decide) ?_
      exact k_lret rfl C hW dX11_unpair_84 ⟨rfl, hq⟩
  · have hq := hq.2 (fun z => c4 ((lg_cmp_le _ _).mpr z))
    refine lv_lload hx hb dX11_unpair_30 (lv_at hl 2 rfl) ?_
    refine lv_lload hx hb dX11_unpair_32 (lv_at hl 3 rfl) ?_
    refine lv_ladd hx hb dX11_unpair_34 ?_
    refine k_cl hW (va_runS (As := [.long (x4 + x6)]) (rest := []) (k_fix C) (c_X11_triangle l G h (x4 + x6) _ hq) (va_cwS 1 C.2.2.2.2.2.1 (gU_S mw1491 mw1492 mw2 mw1493) rfl rfl rfl (by decide +kernel) ⟨Nat.le_of_ble_eq_true rfl, Nat.le_of_ble_eq_true rfl⟩) (k_preS hK hW) rfl rfl hl.1 rfl (lv_room (Nat.le_of_ble_eq_true rfl)) dX11_unpair_35 ⟨Nat.le_refl 0, Nat.le_refl 0⟩) (fun r9 h10 H locs hq hW => ?_)
    rw [hq.1] at hW
    have hq := hq.2
    refine lv_lload_n hx hb dX11_unpair_38 rfl (lv_at hl 0 rfl) ?_
    refine W.lcmp hx hb dX11_unpair_39 ?_
    refine lv_if_gt (tgt := 50) hx hb dX11_unpair_40 (by decide) (fun c11 => ?_) (fun c11 => ?_)
    · have hq := hq.1 ((lg_cmp_gt _ _).mp c11)
      exact k_X11_unpair_50 C hK hX23 hW (lv_sub hl [0, 1, 2, 3] rfl) hq
    · have hq := hq.2 (fun z => c11 ((lg_cmp_gt _ _).mpr z))
      refine lv_lload hx hb dX11_unpair_43 (lv_at hl 2 rfl) ?_
      refine lv_lload hx hb dX11_unpair_45 (lv_at hl 3 rfl) ?_
      refine lv_ladd hx hb dX11_unpair_47 ?_
      refine lv_topl (fun x4_12 ex4_12 => ?_)
      have hq := hq x4_12 ex4_12
      refine lv_lstore (lv' := [(4, .long x4_12), (1, .long x1), (3, .int x3), (6, .long x6)]) hx hb dX11_unpair_48 hl (by decide) rfl (fun ls hl => ?_)
      exact k_X11_unpair_50 C hK hX23 hW (lv_sub hl [1, 2, 0, 3] rfl) hq
theorem k_X11_unpair_23 {Q : Int64 → Prop} {x1 : Int64} {x3 : Int32} {h : hp} (C : kC p s m args meth c cX11_unpair 8 (some .long) RX11 wUX11_unpair) (hK : kK G s) {x4 : Int64} {x6 : Int64} {H : Heap} {locs : List Loc} {ls : Array Slot} (hW : kW SC G h (aS SC G) s H locs) (hl : lv_has ls 8 [(1, .long x1), (3, .int x3), (4, .long x4), (6, .long x6)]) (hq : w_X11_unpair_23 Q x1 x3 x4 x6) : W p l e rmX11_unpair s m args below meth c H locs 0 0 (MQ below (va_Ql (fun r9 h9 => h9 = h ∧ Q r9) (kB SC G) (aS SC G)) args s 0 0 (aS SC G)) (F0 m 23 ls []) := by
  have key := hq (fun (q : Int64 × Int64) => ∀ (H : Heap) (locs : List Loc) (ls : Array Slot), kW SC G h (aS SC G) s H locs → lv_has ls 8 [(1, .long x1), (3, .int x3), (4, .long q.1), (6, .long q.2)] → W p l e rmX11_unpair s m args below meth c H locs 0 0 (MQ below (va_Ql (fun r9 h9 => h9 = h ∧ Q r9) (kB SC G) (aS SC G)) args s 0 0 (aS SC G)) (F0 m 23 ls []))
    (fun q hq H locs ls hW hl => k_X11_unpair_b23 C hK (fun x4 x6 H locs ls hW hl hI => hI H locs ls hW hl) hW hl hq)
  exact key _ _ _ hW hl
theorem k_X11_unpair_0 {Q : Int64 → Prop} {x1 : Int64} {x3 : Int32} {h : hp} (C : kC p s m args meth c cX11_unpair 8 (some .long) RX11 wUX11_unpair) (hK : kK G s) {H : Heap} {locs : List Loc} {ls : Array Slot} (hW : kW SC G h (aS SC G) s H locs) (hl : lv_has ls 8 [(0, .ref (G.2.2 0)), (1, .long x1), (3, .int x3)]) (hq : w_X11_unpair_0 Q x1 x3) : W p l e rmX11_unpair s m args below meth c H locs 0 0 (MQ below (va_Ql (fun r9 h9 => h9 = h ∧ Q r9) (kB SC G) (aS SC G)) args s 0 0 (aS SC G)) (F0 m 0 ls []) := by
  have hx := C.1
  have hb := C.2.1
  unfold w_X11_unpair_0 at hq
  refine lv_lload_n hx hb dX11_unpair_0 rfl (lv_at hl 1 rfl) ?_
  refine lv_lconst (v := 0) hx hb dX11_unpair_1 (by decide) ?_
  refine lv_ldc2 (v := 1000000000000000000) hx hb C.2.2.2.2.1 (C.2.2.2.2.2.1 _ (List.mem_cons_of_mem _ mw834)) dX11_unpair_2 ?_
  refine k_ci hW (va_runS (As := [.long x1, .long 0, .long 1000000000000000000]) (rest := []) (k_fix C) (c_X11_within l G h x1 0 1000000000000000000 _ hq) (va_cwS 3 C.2.2.2.2.2.1 (gU_S mw780 mw446 mw2 mw447) rfl rfl rfl (by decide +kernel) ⟨Nat.le_of_ble_eq_true rfl, Nat.le_of_ble_eq_true rfl⟩) (k_preS hK hW) rfl rfl hl.1 rfl (lv_room (Nat.le_of_ble_eq_true rfl)) dX11_unpair_5 ⟨Nat.le_refl 0, Nat.le_refl 0⟩) (fun r1 h2 H locs hq hW => ?_)
  rw [hq.1] at hW
  have hq := hq.2
  refine lv_if_ne (tgt := 15) hx hb dX11_unpair_8 (by decide) (fun c3 => ?_) (fun c3 => ?_)
  · have hq := hq.1 c3
    refine lv_lconst (v := 0) hx hb dX11_unpair_15 (by decide) ?_
    refine lv_lstore (lv' := [(4, .long 0), (0, .ref (G.2.2 0)), (1, .long x1), (3, .int x3)]) hx hb dX11_unpair_16 hl (by decide) rfl (fun ls hl => ?_)
    refine lv_ldc2 (v := 1073741824) hx hb C.2.2.2.2.1 (C.2.2.2.2.2.1 _ (List.mem_cons_of_mem _ mw1506)) dX11_unpair_18 ?_
    refine lv_lstore (lv' := [(6, .long 1073741824), (4, .long 0), (0, .ref (G.2.2 0)), (1, .long x1), (3, .int x3)]) hx hb dX11_unpair_21 hl (by decide) rfl (fun ls hl => ?_)
    exact k_X11_unpair_23 C hK hW (lv_sub hl [3, 4, 1, 0] rfl) hq
  · have hq := hq.2 c3
    refine lv_ldc2 (v := (-1)) hx hb C.2.2.2.2.1 (C.2.2.2.2.2.1 _ (List.mem_cons_of_mem _ mw802)) dX11_unpair_11 ?_
    exact k_lret rfl C hW dX11_unpair_14 ⟨rfl, hq⟩
theorem c_X11_unpair (l : Launch) (G : wG) (h : hp) (x1 : Int64) (x3 : Int32) (Q : Int64 → Prop) (hq : w_X11_unpair x1 x3 Q) : ctL l SC G yX11_unpair wUX11_unpair rmX11_unpair h [.ref (G.2.2 0), .long x1, .int x3] (fun r9 h9 => h9 = h ∧ Q r9) := by
  refine k_start (cc := cX11_unpair) (maxL := 8) (rt := (some .long)) (own := RX11) (by decide +kernel) rfl rfl (Nat.le_of_ble_eq_true rfl) ?_
  intro p e s m below meth c ls C hK hW hl
  exact k_X11_unpair_0 C hK hW hl hq
end LINKS
