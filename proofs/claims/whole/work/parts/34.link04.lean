section LINKS
variable {p : Program} {l : Launch} {e : Env} {s : State} {m : MethodId} {args : Array Value} {below : List Frame} {meth : Method} {c : Code} {G : wG}
theorem k_X3_behindUnit_43 {Q : Int32 → hp → Prop} {h : hp} {s0 : Int32} {s1 : Int32} (C : kC p s m args meth c cX3_behindUnit 3 (some .int) RX3 wUX3_behindUnit) (hK : kK G s) {H : Heap} {locs : List Loc} {ls : Array Slot} (hW : kW SC G h (aS SC G) s H locs) (hl : lv_has ls 3 [(0, .ref (G.2.2 8))]) (hq : w_X3_behindUnit_43 Q h s0 s1) : W p l e rmX3_behindUnit s m args below meth c H locs 0 0 (MQ below (va_Qi Q (kB SC G) (aS SC G)) args s 0 0 (aS SC G)) (F0 m 43 ls [.int s0, .int s1]) := by
  have hx := C.1
  have hb := C.2.1
  unfold w_X3_behindUnit_43 at hq
  refine lv_icmp_eq (tgt := 48) hx hb dX3_behindUnit_43 (by decide) (fun c8 => ?_) (fun c8 => ?_)
  · have hq := hq.1 c8
    refine lv_aload_n hx hb dX3_behindUnit_48 rfl (lv_at hl 0 rfl) ?_
    refine lv_iconst (v := 1) hx hb dX3_behindUnit_49 (by decide) ?_
    refine k_cv hW (va_runV (As := [.int 1]) (rest := []) (k_fix C) (c_X3_writeWaiting l G h 1 _ hq) (cwV 1 C.2.2.2.2.2.1 (gU_V mw483 mw484 mw485 mw55 mw486) rfl rfl rfl (by decide +kernel) ⟨Nat.le_of_ble_eq_true rfl, Nat.le_of_ble_eq_true rfl⟩) (k_preV hK hW (shC_lt (rfl : shC 8 = 3) (by decide)) (ceC_3 (rfl : shC 8 = 3)) (q := (RX3, TX3, 10)) rfl) rfl rfl hl.1 rfl (lv_room (Nat.le_of_ble_eq_true rfl)) dX3_behindUnit_50 ⟨Nat.le_refl 0, Nat.le_refl 0⟩) (fun h9 H locs hq hW => ?_)
    refine lv_aload_n hx hb dX3_behindUnit_53 rfl (lv_at hl 0 rfl) ?_
    refine gt3_6 C hK hW (rfl : shC 8 = 3) (List.mem_cons_of_mem _ mw201) (fun _ h9 => List.mem_cons_of_mem _ (inU_wsX30 _ h9)) dX3_behindUnit_54 ?_
    refine lv_if_le (tgt := 67) hx hb dX3_behindUnit_57 (by decide) (fun c10 => ?_) (fun c10 => ?_)
    · have hq := hq.1 c10
      refine lv_aload_n hx hb dX3_behindUnit_67 rfl (lv_at hl 0 rfl) ?_
      refine k_cv hW (va_runV (As := []) (rest := []) (k_fix C) (c_X3_partEnds l G h9 _ hq) (cwV 0 C.2.2.2.2.2.1 (gU_V mw491 mw492 mw493 mw55 mw494) rfl rfl rfl (by decide +kernel) ⟨Nat.le_of_ble_eq_true rfl, Nat.le_of_ble_eq_true rfl⟩) (k_preV hK hW (shC_lt (rfl : shC 8 = 3) (by decide)) (ceC_3 (rfl : shC 8 = 3)) (q := (RX3, TX3, 10)) rfl) rfl rfl hl.1 rfl (lv_room (Nat.le_of_ble_eq_true rfl)) dX3_behindUnit_68 ⟨Nat.le_refl 0, Nat.le_refl 0⟩) (fun h11 H locs hq hW => ?_)
      refine lv_iconst (v := 0) hx hb dX3_behindUnit_71 (by decide) ?_
      exact k_iret rfl C hW dX3_behindUnit_72 hq
    · have hq := hq.2 c10
      refine lv_aload_n hx hb dX3_behindUnit_60 rfl (lv_at hl 0 rfl) ?_
      refine k_cv hW (va_runV (As := []) (rest := []) (k_fix C) (c_X3_nestEnds l G h9 _ hq) (cwV 0 C.2.2.2.2.2.1 (gU_V mw487 mw488 mw489 mw55 mw490) rfl rfl rfl (by decide +kernel) ⟨Nat.le_of_ble_eq_true rfl, Nat.le_of_ble_eq_true rfl⟩) (k_preV hK hW (shC_lt (rfl : shC 8 = 3) (by decide)) (ceC_3 (rfl : shC 8 = 3)) (q := (RX3, TX3, 10)) rfl) rfl rfl hl.1 rfl (lv_room (Nat.le_of_ble_eq_true rfl)) dX3_behindUnit_61 ⟨Nat.le_refl 0, Nat.le_refl 0⟩) (fun h12 H locs hq hW => ?_)
      refine lv_goto (tgt := 71) hx hb dX3_behindUnit_64 (by decide) ?_
      refine lv_iconst (v := 0) hx hb dX3_behindUnit_71 (by decide) ?_
      exact k_iret rfl C hW dX3_behindUnit_72 hq
  · have hq := hq.2 c8
    refine lv_iconst (v := 1) hx hb dX3_behindUnit_46 (by decide) ?_
    exact k_iret rfl C hW dX3_behindUnit_47 hq
theorem k_X3_behindUnit_0 {Q : Int32 → hp → Prop} {x1 : Int32} {h : hp} (C : kC p s m args meth c cX3_behindUnit 3 (some .int) RX3 wUX3_behindUnit) (hK : kK G s) {H : Heap} {locs : List Loc} {ls : Array Slot} (hW : kW SC G h (aS SC G) s H locs) (hl : lv_has ls 3 [(0, .ref (G.2.2 8)), (1, .int x1)]) (hq : w_X3_behindUnit_0 Q x1 h) : W p l e rmX3_behindUnit s m args below meth c H locs 0 0 (MQ below (va_Qi Q (kB SC G) (aS SC G)) args s 0 0 (aS SC G)) (F0 m 0 ls []) := by
  have hx := C.1
  have hb := C.2.1
  unfold w_X3_behindUnit_0 at hq
  refine lv_iload_n hx hb dX3_behindUnit_0 rfl (lv_at hl 1 rfl) ?_
  refine k_ci hW (va_runS (As := [.int x1]) (rest := []) (k_fix C) (c_X3_rankOf l G h x1 _ hq) (va_cwS 1 C.2.2.2.2.2.1 (gU_S mw480 mw481 mw55 mw482) rfl rfl rfl (by decide +kernel) ⟨Nat.le_of_ble_eq_true rfl, Nat.le_of_ble_eq_true rfl⟩) (k_preS hK hW) rfl rfl hl.1 rfl (lv_room (Nat.le_of_ble_eq_true rfl)) dX3_behindUnit_1 ⟨Nat.le_refl 0, Nat.le_refl 0⟩) (fun r1 h2 H locs hq hW => ?_)
  rw [hq.1] at hW
  have hq := hq.2
  refine lv_istore_n (lv' := [(2, .int r1), (0, .ref (G.2.2 8)), (1, .int x1)]) hx hb dX3_behindUnit_4 rfl hl (by decide) rfl (fun ls hl => ?_)
  refine lv_iload_n hx hb dX3_behindUnit_5 rfl (lv_at hl 0 rfl) ?_
  refine lv_if_le (tgt := 26) hx hb dX3_behindUnit_6 (by decide) (fun c3 => ?_) (fun c3 => ?_)
  · have hq := hq.1 c3
    refine lv_iload_n hx hb dX3_behindUnit_26 rfl (lv_at hl 2 rfl) ?_
    refine lv_aload_n hx hb dX3_behindUnit_27 rfl (lv_at hl 1 rfl) ?_
    refine gt3_6 C hK hW (rfl : shC 8 = 3) (List.mem_cons_of_mem _ mw201) (fun _ h9 => List.mem_cons_of_mem _ (inU_wsX30 _ h9)) dX3_behindUnit_28 ?_
    refine lv_if_le (tgt := 39) hx hb dX3_behindUnit_31 (by decide) (fun c4 => ?_) (fun c4 => ?_)
    · have hq := hq.1 c4
      refine lv_aload_n hx hb dX3_behindUnit_39 rfl (lv_at hl 1 rfl) ?_
      refine gt3_4 C hK hW (rfl : shC 8 = 3) (List.mem_cons_of_mem _ mw199) (fun _ h9 => List.mem_cons_of_mem _ (inU_wsX30 _ h9)) dX3_behindUnit_40 ?_
      exact k_X3_behindUnit_43 C hK hW (lv_sub hl [1] rfl) hq
    · have hq := hq.2 c4
      refine lv_bipush (v := 41) hx hb dX3_behindUnit_34 (by decide) ?_
      refine lv_goto (tgt := 43) hx hb dX3_behindUnit_36 (by decide) ?_
      exact k_X3_behindUnit_43 C hK hW (lv_sub hl [1] rfl) hq
  · have hq := hq.2 c3
    refine lv_aload_n hx hb dX3_behindUnit_9 rfl (lv_at hl 1 rfl) ?_
    refine lv_iload_n hx hb dX3_behindUnit_10 rfl (lv_at hl 0 rfl) ?_
    refine k_cv hW (va_runV (As := [.int r1]) (rest := []) (k_fix C) (c_X3_writeWaiting l G h r1 _ hq) (cwV 1 C.2.2.2.2.2.1 (gU_V mw483 mw484 mw485 mw55 mw486) rfl rfl rfl (by decide +kernel) ⟨Nat.le_of_ble_eq_true rfl, Nat.le_of_ble_eq_true rfl⟩) (k_preV hK hW (shC_lt (rfl : shC 8 = 3) (by decide)) (ceC_3 (rfl : shC 8 = 3)) (q := (RX3, TX3, 10)) rfl) rfl rfl hl.1 rfl (lv_room (Nat.le_of_ble_eq_true rfl)) dX3_behindUnit_11 ⟨Nat.le_refl 0, Nat.le_refl 0⟩) (fun h5 H locs hq hW => ?_)
    refine lv_aload_n hx hb dX3_behindUnit_14 rfl (lv_at hl 1 rfl) ?_
    refine lv_iload_n hx hb dX3_behindUnit_15 rfl (lv_at hl 2 rfl) ?_
    refine k_cv hW (va_runV (As := [.int x1]) (rest := []) (k_fix C) (c_X3_letWait l G h5 x1 _ hq) (cwV 1 C.2.2.2.2.2.1 (gU_V mw471 mw472 mw473 mw55 mw474) rfl rfl rfl (by decide +kernel) ⟨Nat.le_of_ble_eq_true rfl, Nat.le_of_ble_eq_true rfl⟩) (k_preV hK hW (shC_lt (rfl : shC 8 = 3) (by decide)) (ceC_3 (rfl : shC 8 = 3)) (q := (RX3, TX3, 10)) rfl) rfl rfl hl.1 rfl (lv_room (Nat.le_of_ble_eq_true rfl)) dX3_behindUnit_16 ⟨Nat.le_refl 0, Nat.le_refl 0⟩) (fun h6 H locs hq hW => ?_)
    refine lv_aload_n hx hb dX3_behindUnit_19 rfl (lv_at hl 1 rfl) ?_
    refine lv_iconst (v := 1) hx hb dX3_behindUnit_20 (by decide) ?_
    refine pt3_2 C hK hW (rfl : shC 8 = 3) (List.mem_cons_of_mem _ mw197) (fun _ h9 => List.mem_cons_of_mem _ (inU_wsX30 _ h9)) isZ_1 dX3_behindUnit_21 (fun h7 H locs eh7 hW => ?_)
    have hq := hq h7 eh7
    refine lv_iconst (v := 0) hx hb dX3_behindUnit_24 (by decide) ?_
    exact k_iret rfl C hW dX3_behindUnit_25 hq
theorem c_X3_behindUnit (l : Launch) (G : wG) (h : hp) (x1 : Int32) (Q : Int32 → hp → Prop) (hq : w_X3_behindUnit h x1 Q) : ctI l SC G yX3_behindUnit wUX3_behindUnit rmX3_behindUnit h [.ref (G.2.2 8), .int x1] Q := by
  refine k_start (cc := cX3_behindUnit) (maxL := 3) (rt := (some .int)) (own := RX3) (by decide +kernel) rfl rfl (Nat.le_of_ble_eq_true rfl) ?_
  intro p e s m below meth c ls C hK hW hl
  exact k_X3_behindUnit_0 C hK hW hl hq
theorem k_X6_clear_0 {o : Nat} (ho : shC o = 6) {Q : hp → Prop} {h : hp} (C : kC p s m args meth c cX6_clear 1 none RX6 wUX6_clear) (hK : kK G s) {H : Heap} {locs : List Loc} {ls : Array Slot} (hW : kW SC G h (aS SC G) s H locs) (hl : lv_has ls 1 [(0, .ref (G.2.2 o))]) (hq : w_X6_clear_0 o Q h) : W p l e rmX6_clear s m args below meth c H locs 0 0 (MQ below (va_Qv Q (kB SC G) (aS SC G)) args s 0 0 (aS SC G)) (F0 m 0 ls []) := by
  have hx := C.1
  have hb := C.2.1
  unfold w_X6_clear_0 at hq
  refine lv_aload_n hx hb dX6_clear_0 rfl (lv_at hl 0 rfl) ?_
  refine lv_iconst (v := 0) hx hb dX6_clear_1 (by decide) ?_
  refine pt6_0 C hK hW ho (List.mem_cons_of_mem _ mw93) (fun _ h9 => List.mem_cons_of_mem _ (inU_wsX60 _ h9)) dX6_clear_2 (fun h1 H locs eh1 hW => ?_)
  have hq := hq h1 eh1
  refine lv_aload_n hx hb dX6_clear_5 rfl (lv_at hl 0 rfl) ?_
  refine lv_bipush (v := 97) hx hb dX6_clear_6 (by decide) ?_
  refine pt6_1 C hK hW ho (List.mem_cons_of_mem _ mw94) (fun _ h9 => List.mem_cons_of_mem _ (inU_wsX60 _ h9)) dX6_clear_8 (fun h2 H locs eh2 hW => ?_)
  have hq := hq h2 eh2
  exact k_vret rfl C hW dX6_clear_11 hq
theorem c_X6_clear (l : Launch) (G : wG) {o : Nat} (ho : shC o = 6) (h : hp) (Q : hp → Prop) (hq : w_X6_clear o h Q) : ctV l SC G yX6_clear wUX6_clear rmX6_clear h [.ref (G.2.2 o)] Q := by
  refine k_start (cc := cX6_clear) (maxL := 1) (rt := none) (own := RX6) (by decide +kernel) rfl rfl (Nat.le_of_ble_eq_true rfl) ?_
  intro p e s m below meth c ls C hK hW hl
  exact k_X6_clear_0 ho C hK hW hl hq
theorem k_X7_clear_0 {o : Nat} (ho : shC o = 7) {Q : hp → Prop} {h : hp} (C : kC p s m args meth c cX7_clear 1 none RX7 wUX7_clear) (hK : kK G s) {H : Heap} {locs : List Loc} {ls : Array Slot} (hW : kW SC G h (aS SC G) s H locs) (hl : lv_has ls 1 [(0, .ref (G.2.2 o))]) (hq : w_X7_clear_0 o Q h) : W p l e rmX7_clear s m args below meth c H locs 0 0 (MQ below (va_Qv Q (kB SC G) (aS SC G)) args s 0 0 (aS SC G)) (F0 m 0 ls []) := by
  have hx := C.1
  have hb := C.2.1
  unfold w_X7_clear_0 at hq
  refine lv_aload_n hx hb dX7_clear_0 rfl (lv_at hl 0 rfl) ?_
  refine lv_iconst (v := 0) hx hb dX7_clear_1 (by decide) ?_
  refine pt7_0 C hK hW ho (List.mem_cons_of_mem _ mw61) (fun _ h9 => List.mem_cons_of_mem _ (inU_wsX70 _ h9)) dX7_clear_2 (fun h1 H locs eh1 hW => ?_)
  have hq := hq h1 eh1
  refine lv_aload_n hx hb dX7_clear_5 rfl (lv_at hl 0 rfl) ?_
  refine gt7_4 C hK hW ho (List.mem_cons_of_mem _ mw70) (fun _ h9 => List.mem_cons_of_mem _ (inU_wsX70 _ h9)) dX7_clear_6 ?_
  refine k_cv hW (va_runV (As := []) (rest := []) (k_fix C) (c_X2_clear l G (sl7_4 ho) h1 _ hq) (cwV 0 C.2.2.2.2.2.1 (gU_V mw110 mw111 mw112 mw69 mw113) rfl rfl rfl (by decide +kernel) ⟨Nat.le_of_ble_eq_true rfl, Nat.le_of_ble_eq_true rfl⟩) (k_preV hK hW (shC_lt (sl7_4 ho) (by decide)) (ceC_2 (sl7_4 ho)) (q := (RX2, TX2, 5)) rfl) rfl rfl hl.1 rfl (lv_room (Nat.le_of_ble_eq_true rfl)) dX7_clear_9 ⟨Nat.le_refl 0, Nat.le_refl 0⟩) (fun h2 H locs hq hW => ?_)
  refine lv_aload_n hx hb dX7_clear_12 rfl (lv_at hl 0 rfl) ?_
  refine gt7_4 C hK hW ho (List.mem_cons_of_mem _ mw70) (fun _ h9 => List.mem_cons_of_mem _ (inU_wsX70 _ h9)) dX7_clear_13 ?_
  refine lv_iconst (v := 2) hx hb dX7_clear_16 (by decide) ?_
  refine lv_iconst (v := 3) hx hb dX7_clear_17 (by decide) ?_
  refine k_ci hW (va_runV (As := [.int 2, .int 3]) (rest := []) (k_fix C) (c_X2_add l G (sl7_4 ho) h2 2 3 _ hq) (cwV 2 C.2.2.2.2.2.1 (gU_V mw114 mw115 mw116 mw69 mw117) rfl rfl rfl (by decide +kernel) ⟨Nat.le_of_ble_eq_true rfl, Nat.le_of_ble_eq_true rfl⟩) (k_preV hK hW (shC_lt (sl7_4 ho) (by decide)) (ceC_2 (sl7_4 ho)) (q := (RX2, TX2, 5)) rfl) rfl rfl hl.1 rfl (lv_room (Nat.le_of_ble_eq_true rfl)) dX7_clear_18 ⟨Nat.le_refl 0, Nat.le_refl 0⟩) (fun r4 h3 H locs hq hW => ?_)
  refine lv_pop hx hb dX7_clear_21 rfl ?_
  refine lv_aload_n hx hb dX7_clear_22 rfl (lv_at hl 0 rfl) ?_
  refine gt7_4 C hK hW ho (List.mem_cons_of_mem _ mw70) (fun _ h9 => List.mem_cons_of_mem _ (inU_wsX70 _ h9)) dX7_clear_23 ?_
  refine lv_iconst (v := 1) hx hb dX7_clear_26 (by decide) ?_
  refine lv_iconst (v := 1) hx hb dX7_clear_27 (by decide) ?_
  refine k_ci hW (va_runV (As := [.int 1, .int 1]) (rest := []) (k_fix C) (c_X2_add l G (sl7_4 ho) h3 1 1 _ hq) (cwV 2 C.2.2.2.2.2.1 (gU_V mw114 mw115 mw116 mw69 mw117) rfl rfl rfl (by decide +kernel) ⟨Nat.le_of_ble_eq_true rfl, Nat.le_of_ble_eq_true rfl⟩) (k_preV hK hW (shC_lt (sl7_4 ho) (by decide)) (ceC_2 (sl7_4 ho)) (q := (RX2, TX2, 5)) rfl) rfl rfl hl.1 rfl (lv_room (Nat.le_of_ble_eq_true rfl)) dX7_clear_28 ⟨Nat.le_refl 0, Nat.le_refl 0⟩) (fun r6 h5 H locs hq hW => ?_)
  refine lv_pop hx hb dX7_clear_31 rfl ?_
  refine lv_aload_n hx hb dX7_clear_32 rfl (lv_at hl 0 rfl) ?_
  refine gt7_4 C hK hW ho (List.mem_cons_of_mem _ mw70) (fun _ h9 => List.mem_cons_of_mem _ (inU_wsX70 _ h9)) dX7_clear_33 ?_
  refine lv_bipush (v := 43) hx hb dX7_clear_36 (by decide) ?_
  refine lv_iconst (v := 0) hx hb dX7_clear_38 (by decide) ?_
  refine k_ci hW (va_runV (As := [.int 43, .int 0]) (rest := []) (k_fix C) (c_X2_add l G (sl7_4 ho) h5 43 0 _ hq) (cwV 2 C.2.2.2.2.2.1 (gU_V mw114 mw115 mw116 mw69 mw117) rfl rfl rfl (by decide +kernel) ⟨Nat.le_of_ble_eq_true rfl, Nat.le_of_ble_eq_true rfl⟩) (k_preV hK hW (shC_lt (sl7_4 ho) (by decide)) (ceC_2 (sl7_4 ho)) (q := (RX2, TX2, 5)) rfl) rfl rfl hl.1 rfl (lv_room (Nat.le_of_ble_eq_true rfl)) dX7_clear_39 ⟨Nat.le_refl 0, Nat.le_refl 0⟩) (fun r8 h7 H locs hq hW => ?_)
  refine lv_pop hx hb dX7_clear_42 rfl ?_
  refine lv_aload_n hx hb dX7_clear_43 rfl (lv_at hl 0 rfl) ?_
  refine gt7_4 C hK hW ho (List.mem_cons_of_mem _ mw70) (fun _ h9 => List.mem_cons_of_mem _ (inU_wsX70 _ h9)) dX7_clear_44 ?_
  refine lv_iconst (v := 4) hx hb dX7_clear_47 (by decide) ?_
  refine lv_iconst (v := 0) hx hb dX7_clear_48 (by decide) ?_
  refine k_ci hW (va_runV (As := [.int 4, .int 0]) (rest := []) (k_fix C) (c_X2_add l G (sl7_4 ho) h7 4 0 _ hq) (cwV 2 C.2.2.2.2.2.1 (gU_V mw114 mw115 mw116 mw69 mw117) rfl rfl rfl (by decide +kernel) ⟨Nat.le_of_ble_eq_true rfl, Nat.le_of_ble_eq_true rfl⟩) (k_preV hK hW (shC_lt (sl7_4 ho) (by decide)) (ceC_2 (sl7_4 ho)) (q := (RX2, TX2, 5)) rfl) rfl rfl hl.1 rfl (lv_room (Nat.le_of_ble_eq_true rfl)) dX7_clear_49 ⟨Nat.le_refl 0, Nat.le_refl 0⟩) (fun r10 h9 H locs hq hW => ?_)
  refine lv_pop hx hb dX7_clear_52 rfl ?_
  refine lv_aload_n hx hb dX7_clear_53 rfl (lv_at hl 0 rfl) ?_
  refine gt7_5 C hK hW ho (List.mem_cons_of_mem _ mw74) (fun _ h9 => List.mem_cons_of_mem _ (inU_wsX70 _ h9)) dX7_clear_54 ?_
  refine k_cv hW (va_runV (As := []) (rest := []) (k_fix C) (c_X6_clear l G (sl7_5 ho) h9 _ hq) (cwV 0 C.2.2.2.2.2.1 (gU_V mw118 mw119 mw120 mw73 mw121) rfl rfl rfl (by decide +kernel) ⟨Nat.le_of_ble_eq_true rfl, Nat.le_of_ble_eq_true rfl⟩) (k_preV hK hW (shC_lt (sl7_5 ho) (by decide)) (ceC_6 (sl7_5 ho)) (q := (RX6, TX6, 7)) rfl) rfl rfl hl.1 rfl (lv_room (Nat.le_of_ble_eq_true rfl)) dX7_clear_57 ⟨Nat.le_refl 0, Nat.le_refl 0⟩) (fun h11 H locs hq hW => ?_)
  refine lv_aload_n hx hb dX7_clear_60 rfl (lv_at hl 0 rfl) ?_
  refine gt7_6 C hK hW ho (List.mem_cons_of_mem _ mw78) (fun _ h9 => List.mem_cons_of_mem _ (inU_wsX70 _ h9)) dX7_clear_61 ?_
  refine k_cv hW (va_runV (As := []) (rest := []) (k_fix C) (c_X0_clear l G (sl7_6 ho) h11 _ hq) (cwV 0 C.2.2.2.2.2.1 (gU_V mw122 mw123 mw124 mw77 mw125) rfl rfl rfl (by decide +kernel) ⟨Nat.le_of_ble_eq_true rfl, Nat.le_of_ble_eq_true rfl⟩) (k_preV hK hW (shC_lt (sl7_6 ho) (by decide)) (ceC_0 (sl7_6 ho)) (q := (RX0, TX0, 3)) rfl) rfl rfl hl.1 rfl (lv_room (Nat.le_of_ble_eq_true rfl)) dX7_clear_64 ⟨Nat.le_refl 0, Nat.le_refl 0⟩) (fun h12 H locs hq hW => ?_)
  refine lv_aload_n hx hb dX7_clear_67 rfl (lv_at hl 0 rfl) ?_
  refine lv_iconst (v := 3) hx hb dX7_clear_68 (by decide) ?_
  refine pt7_7 C hK hW ho (List.mem_cons_of_mem _ mw79) (fun _ h9 => List.mem_cons_of_mem _ (inU_wsX70 _ h9)) dX7_clear_69 (fun h13 H locs eh13 hW => ?_)
  have hq := hq h13 eh13
  refine lv_aload_n hx hb dX7_clear_72 rfl (lv_at hl 0 rfl) ?_
  refine lv_iconst (v := 3) hx hb dX7_clear_73 (by decide) ?_
  refine pt7_8 C hK hW ho (List.mem_cons_of_mem _ mw80) (fun _ h9 => List.mem_cons_of_mem _ (inU_wsX70 _ h9)) dX7_clear_74 (fun h14 H locs eh14 hW => ?_)
  have hq := hq h14 eh14
  refine lv_aload_n hx hb dX7_clear_77 rfl (lv_at hl 0 rfl) ?_
  refine lv_iconst (v := 0) hx hb dX7_clear_78 (by decide) ?_
  refine pt7_9 C hK hW ho (List.mem_cons_of_mem _ mw81) (fun _ h9 => List.mem_cons_of_mem _ (inU_wsX70 _ h9)) dX7_clear_79 (fun h15 H locs eh15 hW => ?_)
  have hq := hq h15 eh15
  exact k_vret rfl C hW dX7_clear_82 hq
theorem c_X7_clear (l : Launch) (G : wG) {o : Nat} (ho : shC o = 7) (h : hp) (Q : hp → Prop) (hq : w_X7_clear o h Q) : ctV l SC G yX7_clear wUX7_clear rmX7_clear h [.ref (G.2.2 o)] Q := by
  refine k_start (cc := cX7_clear) (maxL := 1) (rt := none) (own := RX7) (by decide +kernel) rfl rfl (Nat.le_of_ble_eq_true rfl) ?_
  intro p e s m below meth c ls C hK hW hl
  exact k_X7_clear_0 ho C hK hW hl hq
theorem k_X8_isBlank_0 {Q : Int32 → Prop} {x0 : Int32} {h : hp} (C : kC p s m args meth c cX8_isBlank 1 (some .boolean) RX8 wUX8_isBlank) (hK : kK G s) {H : Heap} {locs : List Loc} {ls : Array Slot} (hW : kW SC G h (aS SC G) s H locs) (hl : lv_has ls 1 [(0, .int x0)]) (hq : w_X8_isBlank_0 Q x0) : W p l e rmX8_isBlank s m args below meth c H locs 0 0 (MQ below (va_Qi (fun r9 h9 => h9 = h ∧ Q r9) (kB SC G) (aS SC G)) args s 0 0 (aS SC G)) (F0 m 0 ls []) := by
  have hx := C.1
  have hb := C.2.1
  unfold w_X8_isBlank_0 at hq
  refine lv_iload_n hx hb dX8_isBlank_0 rfl (lv_at hl 0 rfl) ?_
  refine lv_bipush (v := 9) hx hb dX8_isBlank_1 (by decide) ?_
  refine lv_icmp_eq (tgt := 24) hx hb dX8_isBlank_3 (by decide) (fun c1 => ?_) (fun c1 => ?_)
  · have hq := hq.1 c1
    refine lv_iconst (v := 1) hx hb dX8_isBlank_24 (by decide) ?_
    refine lv_goto (tgt := 29) hx hb dX8_isBlank_25 (by decide) ?_
    exact k_zret rfl isZ_1.1 C hW dX8_isBlank_29 ⟨rfl, hq⟩
  · have hq := hq.2 c1
    refine lv_iload_n hx hb dX8_isBlank_6 rfl (lv_at hl 0 rfl) ?_
    refine lv_bipush (v := 10) hx hb dX8_isBlank_7 (by decide) ?_
    refine lv_icmp_eq (tgt := 24) hx hb dX8_isBlank_9 (by decide) (fun c2 => ?_) (fun c2 => ?_)
    · have hq := hq.1 c2
      refine lv_iconst (v := 1) hx hb dX8_isBlank_24 (by decide) ?_
      refine lv_goto (tgt := 29) hx hb dX8_isBlank_25 (by decide) ?_
      exact k_zret rfl isZ_1.1 C hW dX8_isBlank_29 ⟨rfl, hq⟩
    · have hq := hq.2 c2
      refine lv_iload_n hx hb dX8_isBlank_12 rfl (lv_at hl 0 rfl) ?_
      refine lv_bipush (v := 13) hx hb dX8_isBlank_13 (by decide) ?_
      refine lv_icmp_eq (tgt := 24) hx hb dX8_isBlank_15 (by decide) (fun c3 => ?_) (fun c3 => ?_)
      · have hq := hq.1 c3
        refine lv_iconst (v := 1) hx hb dX8_isBlank_24 (by decide) ?_
        refine lv_goto (tgt := 29) hx hb dX8_isBlank_25 (by decide) ?_
        exact k_zret rfl isZ_1.1 C hW dX8_isBlank_29 ⟨rfl, hq⟩
      · have hq := hq.2 c3
        refine lv_iload_n hx hb dX8_isBlank_18 rfl (lv_at hl 0 rfl) ?_
        refine lv_bipush (v := 32) hx hb dX8_isBlank_19 (by decide) ?_
        refine lv_icmp_ne (tgt := 28) hx hb dX8_isBlank_21 (by decide) (fun c4 => ?_) (fun c4 => ?_)
        · have hq := hq.1 c4
          refine lv_iconst (v := 0) hx hb dX8_isBlank_28 (by decide) ?_
          exact k_zret rfl isZ_0.1 C hW dX8_isBlank_29 ⟨rfl, hq⟩
        · have hq := hq.2 c4
          refine lv_iconst (v := 1) hx hb dX8_isBlank_24 (by decide) ?_
          refine lv_goto (tgt := 29) hx hb dX8_isBlank_25 (by decide) ?_
          exact k_zret rfl isZ_1.1 C hW dX8_isBlank_29 ⟨rfl, hq⟩
theorem c_X8_isBlank (l : Launch) (G : wG) (h : hp) (x0 : Int32) (Q : Int32 → Prop) (hq : w_X8_isBlank x0 Q) : ctI l SC G yX8_isBlank wUX8_isBlank rmX8_isBlank h [.int x0] (fun r9 h9 => h9 = h ∧ Q r9) := by
  refine k_start (cc := cX8_isBlank) (maxL := 1) (rt := (some .boolean)) (own := RX8) (by decide +kernel) rfl rfl (Nat.le_of_ble_eq_true rfl) ?_
  intro p e s m below meth c ls C hK hW hl
  exact k_X8_isBlank_0 C hK hW hl hq
theorem k_X8_isLetter_0 {Q : Int32 → Prop} {x0 : Int32} {h : hp} (C : kC p s m args meth c cX8_isLetter 1 (some .boolean) RX8 wUX8_isLetter) (hK : kK G s) {H : Heap} {locs : List Loc} {ls : Array Slot} (hW : kW SC G h (aS SC G) s H locs) (hl : lv_has ls 1 [(0, .int x0)]) (hq : w_X8_isLetter_0 Q x0) : W p l e rmX8_isLetter s m args below meth c H locs 0 0 (MQ below (va_Qi (fun r9 h9 => h9 = h ∧ Q r9) (kB SC G) (aS SC G)) args s 0 0 (aS SC G)) (F0 m 0 ls []) := by
  have hx := C.1
  have hb := C.2.1
  unfold w_X8_isLetter_0 at hq
  refine lv_iload_n hx hb dX8_isLetter_0 rfl (lv_at hl 0 rfl) ?_
  refine lv_bipush (v := 97) hx hb dX8_isLetter_1 (by decide) ?_
  refine lv_icmp_lt (tgt := 16) hx hb dX8_isLetter_3 (by decide) (fun c1 => ?_) (fun c1 => ?_)
  · have hq := hq.1 c1
    refine lv_iconst (v := 0) hx hb dX8_isLetter_16 (by decide) ?_
    exact k_zret rfl isZ_0.1 C hW dX8_isLetter_17 ⟨rfl, hq⟩
  · have hq := hq.2 c1
    refine lv_iload_n hx hb dX8_isLetter_6 rfl (lv_at hl 0 rfl) ?_
    refine lv_bipush (v := 122) hx hb dX8_isLetter_7 (by decide) ?_
    refine lv_icmp_gt (tgt := 16) hx hb dX8_isLetter_9 (by decide) (fun c2 => ?_) (fun c2 => ?_)
    · have hq := hq.1 c2
      refine lv_iconst (v := 0) hx hb dX8_isLetter_16 (by decide) ?_
      exact k_zret rfl isZ_0.1 C hW dX8_isLetter_17 ⟨rfl, hq⟩
    · have hq := hq.2 c2
      refine lv_iconst (v := 1) hx hb dX8_isLetter_12 (by decide) ?_
      refine lv_goto (tgt := 17) hx hb dX8_isLetter_13 (by decide) ?_
      exact k_zret rfl isZ_1.1 C hW dX8_isLetter_17 ⟨rfl, hq⟩
theorem c_X8_isLetter (l : Launch) (G : wG) (h : hp) (x0 : Int32) (Q : Int32 → Prop) (hq : w_X8_isLetter x0 Q) : ctI l SC G yX8_isLetter wUX8_isLetter rmX8_isLetter h [.int x0] (fun r9 h9 => h9 = h ∧ Q r9) := by
  refine k_start (cc := cX8_isLetter) (maxL := 1) (rt := (some .boolean)) (own := RX8) (by decide +kernel) rfl rfl (Nat.le_of_ble_eq_true rfl) ?_
  intro p e s m below meth c ls C hK hW hl
  exact k_X8_isLetter_0 C hK hW hl hq
theorem k_X8_withLetter_0 {Q : Int64 → Prop} {x0 : Int64} {x2 : Int32} {h : hp} (C : kC p s m args meth c cX8_withLetter 3 (some .long) RX8 wUX8_withLetter) (hK : kK G s) {H : Heap} {locs : List Loc} {ls : Array Slot} (hW : kW SC G h (aS SC G) s H locs) (hl : lv_has ls 3 [(0, .long x0), (2, .int x2)]) (hq : w_X8_withLetter_0 Q x0 x2) : W p l e rmX8_withLetter s m args below meth c H locs 0 0 (MQ below (va_Ql (fun r9 h9 => h9 = h ∧ Q r9) (kB SC G) (aS SC G)) args s 0 0 (aS SC G)) (F0 m 0 ls []) := by
  have hx := C.1
  have hb := C.2.1
  unfold w_X8_withLetter_0 at hq
  refine lv_lload_n hx hb dX8_withLetter_0 rfl (lv_at hl 0 rfl) ?_
  refine lv_ldc2 (v := 27) hx hb C.2.2.2.2.1 (C.2.2.2.2.2.1 _ (List.mem_cons_of_mem _ mw190)) dX8_withLetter_1 ?_
  refine lv_lmul hx hb dX8_withLetter_4 ?_
  refine lv_iload_n hx hb dX8_withLetter_5 rfl (lv_at hl 1 rfl) ?_
  refine lv_bipush (v := 97) hx hb dX8_withLetter_6 (by decide) ?_
  refine lv_isub hx hb dX8_withLetter_8 ?_
  refine lv_iconst (v := 1) hx hb dX8_withLetter_9 (by decide) ?_
  refine lv_iadd hx hb dX8_withLetter_10 ?_
  refine lv_i2l (v := ((x2 - 97) + 1).toInt64) hx hb dX8_withLetter_11 rfl ?_
  refine lv_ladd hx hb dX8_withLetter_12 ?_
  exact k_lret rfl C hW dX8_withLetter_13 ⟨rfl, hq⟩
theorem c_X8_withLetter (l : Launch) (G : wG) (h : hp) (x0 : Int64) (x2 : Int32) (Q : Int64 → Prop) (hq : w_X8_withLetter x0 x2 Q) : ctL l SC G yX8_withLetter wUX8_withLetter rmX8_withLetter h [.long x0, .int x2] (fun r9 h9 => h9 = h ∧ Q r9) := by
  refine k_start (cc := cX8_withLetter) (maxL := 3) (rt := (some .long)) (own := RX8) (by decide +kernel) rfl rfl (Nat.le_of_ble_eq_true rfl) ?_
  intro p e s m below meth c ls C hK hW hl
  exact k_X8_withLetter_0 C hK hW hl hq
theorem k_X8_kindOf_b2 {Q : Int32 → Prop} {X2 : Int32 → Prop} {x1 : Int64} {h : hp} (C : kC p s m args meth c cX8_kindOf 4 (some .int) RX8 wUX8_kindOf) (hK : kK G s) (hX2 : ∀ (x3 : Int32) (H : Heap) (locs : List Loc) (ls : Array Slot), kW SC G h (aS SC G) s H locs → lv_has ls 4 [(0, .ref (G.2.2 3)), (1, .long x1), (3, .int x3)] → X2 x3 → W p l e rmX8_kindOf s m args below meth c H locs 0 0 (MQ below (va_Qi (fun r9 h9 => h9 = h ∧ Q r9) (kB SC G) (aS SC G)) args s 0 0 (aS SC G)) (F0 m 2 ls [])) {x3 : Int32} {H : Heap} {locs : List Loc} {ls : Array Slot} (hW : kW SC G h (aS SC G) s H locs) (hl : lv_has ls 4 [(0, .ref (G.2.2 3)), (1, .long x1), (3, .int x3)]) (hq : w_X8_kindOf_b2 Q x1 h X2 x3) : W p l e rmX8_kindOf s m args below meth c H locs 0 0 (MQ below (va_Qi (fun r9 h9 => h9 = h ∧ Q r9) (kB SC G) (aS SC G)) args s 0 0 (aS SC G)) (F0 m 2 ls []) := by
  have hx := C.1
  have hb := C.2.1
  unfold w_X8_kindOf_b2 at hq
  refine lv_iload_n hx hb dX8_kindOf_2 rfl (lv_at hl 2 rfl) ?_
  refine lv_bipush (v := 17) hx hb dX8_kindOf_3 (by decide) ?_
  refine lv_icmp_ge (tgt := 31) hx hb dX8_kindOf_5 (by decide) (fun c1 => ?_) (fun c1 => ?_)
  · have hq := hq.1 c1
    refine lv_iconst (v := 2) hx hb dX8_kindOf_31 (by decide) ?_
    exact k_iret rfl C hW dX8_kindOf_32 ⟨rfl, hq⟩
  · have hq := hq.2 c1
    refine lv_aload_n hx hb dX8_kindOf_8 rfl (lv_at hl 0 rfl) ?_
    refine gt8_3 C hK hW (rfl : shC 3 = 8) (List.mem_cons_of_mem _ mw133) (fun _ h9 => List.mem_cons_of_mem _ (inU_wsX80 _ h9)) dX8_kindOf_9 ?_
    refine lv_iload_n hx hb dX8_kindOf_12 rfl (lv_at hl 2 rfl) ?_
    refine k_lald C hK hW (shC_lt (rfl : shC 7 = 15) (by decide)) (ceC_15 (rfl : shC 7 = 15) (rfl : lnC 7 = 17)) hq.1 dX8_kindOf_13 ?_
    have hq := hq.2
    refine lv_lload_n hx hb dX8_kindOf_14 rfl (lv_at hl 1 rfl) ?_
    refine W.lcmp hx hb dX8_kindOf_15 ?_
    refine lv_if_ne (tgt := 25) hx hb dX8_kindOf_16 (by decide) (fun c2 => ?_) (fun c2 => ?_)
    · have hq := hq.1 (fun z => c2 ((lg_cmp_eq _ _).mpr z))
      obtain ⟨x3_3, ex3_3⟩ : ∃ y : Int32, y = x3 + 1 := ⟨_, rfl⟩
      have hq := hq x3_3 ex3_3
      refine lv_iinc (v := x3_3) (lv' := [(3, .int x3_3), (0, .ref (G.2.2 3)), (1, .long x1)]) hx hb dX8_kindOf_25 hl (k := 2) rfl (by rw [ex3_3]; rfl) (by decide) rfl (fun ls hl => ?_)
      refine lv_goto (tgt := 2) hx hb dX8_kindOf_28 (by decide) ?_
      exact hX2 _ _ _ _ hW (lv_sub hl [1, 2, 0] rfl) hq
    · have hq := hq.2 ((lg_cmp_eq _ _).mp c2)
      refine lv_sipush (v := 256) hx hb dX8_kindOf_19 (by decide) ?_
      refine lv_iload_n hx hb dX8_kindOf_22 rfl (lv_at hl 2 rfl) ?_
      refine lv_iadd hx hb dX8_kindOf_23 ?_
      exact k_iret rfl C hW dX8_kindOf_24 ⟨rfl, hq⟩
theorem k_X8_kindOf_2 {Q : Int32 → Prop} {x1 : Int64} {h : hp} (C : kC p s m args meth c cX8_kindOf 4 (some .int) RX8 wUX8_kindOf) (hK : kK G s) {x3 : Int32} {H : Heap} {locs : List Loc} {ls : Array Slot} (hW : kW SC G h (aS SC G) s H locs) (hl : lv_has ls 4 [(0, .ref (G.2.2 3)), (1, .long x1), (3, .int x3)]) (hq : w_X8_kindOf_2 Q x1 h x3) : W p l e rmX8_kindOf s m args below meth c H locs 0 0 (MQ below (va_Qi (fun r9 h9 => h9 = h ∧ Q r9) (kB SC G) (aS SC G)) args s 0 0 (aS SC G)) (F0 m 2 ls []) := by
  have key := hq (fun (q : Int32) => ∀ (H : Heap) (locs : List Loc) (ls : Array Slot), kW SC G h (aS SC G) s H locs → lv_has ls 4 [(0, .ref (G.2.2 3)), (1, .long x1), (3, .int q)] → W p l e rmX8_kindOf s m args below meth c H locs 0 0 (MQ below (va_Qi (fun r9 h9 => h9 = h ∧ Q r9) (kB SC G) (aS SC G)) args s 0 0 (aS SC G)) (F0 m 2 ls []))
    (fun q hq H locs ls hW hl => k_X8_kindOf_b2 C hK (fun x3 H locs ls hW hl hI => hI H locs ls hW hl) hW hl hq)
  exact key _ _ _ hW hl
theorem k_X8_kindOf_0 {Q : Int32 → Prop} {x1 : Int64} {h : hp} (C : kC p s m args meth c cX8_kindOf 4 (some .int) RX8 wUX8_kindOf) (hK : kK G s) {H : Heap} {locs : List Loc} {ls : Array Slot} (hW : kW SC G h (aS SC G) s H locs) (hl : lv_has ls 4 [(0, .ref (G.2.2 3)), (1, .long x1)]) (hq : w_X8_kindOf_0 Q x1 h) : W p l e rmX8_kindOf s m args below meth c H locs 0 0 (MQ below (va_Qi (fun r9 h9 => h9 = h ∧ Q r9) (kB SC G) (aS SC G)) args s 0 0 (aS SC G)) (F0 m 0 ls []) := by
  have hx := C.1
  have hb := C.2.1
  unfold w_X8_kindOf_0 at hq
  refine lv_iconst (v := 0) hx hb dX8_kindOf_0 (by decide) ?_
  refine lv_istore_n (lv' := [(3, .int 0), (0, .ref (G.2.2 3)), (1, .long x1)]) hx hb dX8_kindOf_1 rfl hl (by decide) rfl (fun ls hl => ?_)
  exact k_X8_kindOf_2 C hK hW (lv_sub hl [1, 2, 0] rfl) hq
theorem c_X8_kindOf (l : Launch) (G : wG) (h : hp) (x1 : Int64) (Q : Int32 → Prop) (hq : w_X8_kindOf h x1 Q) : ctI l SC G yX8_kindOf wUX8_kindOf rmX8_kindOf h [.ref (G.2.2 3), .long x1] (fun r9 h9 => h9 = h ∧ Q r9) := by
  refine k_start (cc := cX8_kindOf) (maxL := 4) (rt := (some .int)) (own := RX8) (by decide +kernel) rfl rfl (Nat.le_of_ble_eq_true rfl) ?_
  intro p e s m below meth c ls C hK hW hl
  exact k_X8_kindOf_0 C hK hW hl hq
theorem k_X8_add_0 {Q : hp → Prop} {x1 : Int32} {x2 : Int32} {x3 : Int64} {h : hp} (C : kC p s m args meth c cX8_add 5 none RX8 wUX8_add) (hK : kK G s) {H : Heap} {locs : List Loc} {ls : Array Slot} (hW : kW SC G h (aS SC G) s H locs) (hl : lv_has ls 5 [(0, .ref (G.2.2 3)), (1, .int x1), (2, .int x2), (3, .long x3)]) (hq : w_X8_add_0 Q x1 x2 x3 h) : W p l e rmX8_add s m args below meth c H locs 0 0 (MQ below (va_Qv Q (kB SC G) (aS SC G)) args s 0 0 (aS SC G)) (F0 m 0 ls []) := by
  have hx := C.1
  have hb := C.2.1
  unfold w_X8_add_0 at hq
  refine lv_aload_n hx hb dX8_add_0 rfl (lv_at hl 0 rfl) ?_
  refine gt8_4 C hK hW (rfl : shC 3 = 8) (List.mem_cons_of_mem _ mw134) (fun _ h9 => List.mem_cons_of_mem _ (inU_wsX80 _ h9)) dX8_add_1 ?_
  refine lv_sipush (v := 401) hx hb dX8_add_4 (by decide) ?_
  refine lv_icmp_ge (tgt := 50) hx hb dX8_add_7 (by decide) (fun c1 => ?_) (fun c1 => ?_)
  · have hq := hq.1 c1
    exact k_vret rfl C hW dX8_add_50 hq
  · have hq := hq.2 c1
    refine lv_aload_n hx hb dX8_add_10 rfl (lv_at hl 0 rfl) ?_
    refine gt8_0 C hK hW (rfl : shC 3 = 8) (List.mem_cons_of_mem _ mw130) (fun _ h9 => List.mem_cons_of_mem _ (inU_wsX80 _ h9)) dX8_add_11 ?_
    refine lv_aload_n hx hb dX8_add_14 rfl (lv_at hl 0 rfl) ?_
    refine gt8_4 C hK hW (rfl : shC 3 = 8) (List.mem_cons_of_mem _ mw134) (fun _ h9 => List.mem_cons_of_mem _ (inU_wsX80 _ h9)) dX8_add_15 ?_
    refine lv_iload_n hx hb dX8_add_18 rfl (lv_at hl 1 rfl) ?_
    refine k_iast okC C hK hW (shC_lt (rfl : shC 4 = 14) (by decide)) (fun g9 => ceC_14 (rfl : shC 4 = 14) (rfl : lnC 4 = 402)) hq.1 dX8_add_19 (fun H locs hW => ?_)
    have hq := hq.2
    obtain ⟨h2, eh2⟩ : ∃ z : hp, z = sI h 4 (ix (gI h 3 4)) x1 := ⟨_, rfl⟩
    rw [← eh2] at hW
    have hq := hq h2 eh2
    refine lv_aload_n hx hb dX8_add_20 rfl (lv_at hl 0 rfl) ?_
    refine gt8_1 C hK hW (rfl : shC 3 = 8) (List.mem_cons_of_mem _ mw131) (fun _ h9 => List.mem_cons_of_mem _ (inU_wsX80 _ h9)) dX8_add_21 ?_
    refine lv_aload_n hx hb dX8_add_24 rfl (lv_at hl 0 rfl) ?_
    refine gt8_4 C hK hW (rfl : shC 3 = 8) (List.mem_cons_of_mem _ mw134) (fun _ h9 => List.mem_cons_of_mem _ (inU_wsX80 _ h9)) dX8_add_25 ?_
    refine lv_iload_n hx hb dX8_add_28 rfl (lv_at hl 2 rfl) ?_
    refine k_iast okC C hK hW (shC_lt (rfl : shC 5 = 14) (by decide)) (fun g9 => ceC_14 (rfl : shC 5 = 14) (rfl : lnC 5 = 402)) hq.1 dX8_add_29 (fun H locs hW => ?_)
    have hq := hq.2
    obtain ⟨h3, eh3⟩ : ∃ z : hp, z = sI h2 5 (ix (gI h2 3 4)) x2 := ⟨_, rfl⟩
    rw [← eh3] at hW
    have hq := hq h3 eh3
    refine lv_aload_n hx hb dX8_add_30 rfl (lv_at hl 0 rfl) ?_
    refine gt8_2 C hK hW (rfl : shC 3 = 8) (List.mem_cons_of_mem _ mw132) (fun _ h9 => List.mem_cons_of_mem _ (inU_wsX80 _ h9)) dX8_add_31 ?_
    refine lv_aload_n hx hb dX8_add_34 rfl (lv_at hl 0 rfl) ?_
    refine gt8_4 C hK hW (rfl : shC 3 = 8) (List.mem_cons_of_mem _ mw134) (fun _ h9 => List.mem_cons_of_mem _ (inU_wsX80 _ h9)) dX8_add_35 ?_
    refine lv_lload_n hx hb dX8_add_38 rfl (lv_at hl 3 rfl) ?_
    refine k_last okC C hK hW (shC_lt (rfl : shC 6 = 15) (by decide)) (fun g9 => ceC_15 (rfl : shC 6 = 15) (rfl : lnC 6 = 402)) hq.1 dX8_add_39 (fun H locs hW => ?_)
    have hq := hq.2
    obtain ⟨h4, eh4⟩ : ∃ z : hp, z = sL h3 6 (ix (gI h3 3 4)) x3 := ⟨_, rfl⟩
    rw [← eh4] at hW
    have hq := hq h4 eh4
    refine lv_aload_n hx hb dX8_add_40 rfl (lv_at hl 0 rfl) ?_
    refine lv_dup hx hb dX8_add_41 rfl ?_
    refine gt8_4 C hK hW (rfl : shC 3 = 8) (List.mem_cons_of_mem _ mw134) (fun _ h9 => List.mem_cons_of_mem _ (inU_wsX80 _ h9)) dX8_add_42 ?_
    refine lv_iconst (v := 1) hx hb dX8_add_45 (by decide) ?_
    refine lv_iadd hx hb dX8_add_46 ?_
    refine pt8_4 C hK hW (rfl : shC 3 = 8) (List.mem_cons_of_mem _ mw134) (fun _ h9 => List.mem_cons_of_mem _ (inU_wsX80 _ h9)) dX8_add_47 (fun h5 H locs eh5 hW => ?_)
    have hq := hq h5 eh5
    exact k_vret rfl C hW dX8_add_50 hq
theorem c_X8_add (l : Launch) (G : wG) (h : hp) (x1 : Int32) (x2 : Int32) (x3 : Int64) (Q : hp → Prop) (hq : w_X8_add h x1 x2 x3 Q) : ctV l SC G yX8_add wUX8_add rmX8_add h [.ref (G.2.2 3), .int x1, .int x2, .long x3] Q := by
  refine k_start (cc := cX8_add) (maxL := 5) (rt := none) (own := RX8) (by decide +kernel) rfl rfl (Nat.le_of_ble_eq_true rfl) ?_
  intro p e s m below meth c ls C hK hW hl
  exact k_X8_add_0 C hK hW hl hq
theorem k_X8_cutName_59 {o1 : Nat} (ho1 : shC o1 = 13) {no1 : Nat} (hno1 : lnC o1 = no1) {Q : Int32 → hp → Prop} {x3 : Int32} {x4 : Int32} {x5 : Int64} {h : hp} {s0 : Int32} (C : kC p s m args meth c cX8_cutName 7 (some .int) RX8 wUX8_cutName) (hK : kK G s) {H : Heap} {locs : List Loc} {ls : Array Slot} (hW : kW SC G h (aS SC G) s H locs) (hl : lv_has ls 7 [(3, .int x3), (4, .int x4), (5, .long x5)]) (hq : w_X8_cutName_59 o1 no1 Q x3 x4 x5 h s0) : W p l e rmX8_cutName s m args below meth c H locs 0 0 (MQ below (va_Qi Q (kB SC G) (aS SC G)) args s 0 0 (aS SC G)) (F0 m 59 ls [.int s0, .ref (G.2.2 3)]) := by
  have hx := C.1
  have hb := C.2.1
  unfold w_X8_cutName_59 at hq
  refine lv_iload_n hx hb dX8_cutName_59 rfl (lv_at hl 0 rfl) ?_
  refine lv_lload hx hb dX8_cutName_60 (lv_at hl 2 rfl) ?_
  refine k_cv hW (va_runV (As := [.int s0, .int x3, .long x5]) (rest := []) (k_fix C) (c_X8_add l G h s0 x3 x5 _ hq) (cwV 3 C.2.2.2.2.2.1 (gU_V mw383 mw384 mw385 mw51 mw386) rfl rfl rfl (by decide +kernel) ⟨Nat.le_of_ble_eq_true rfl, Nat.le_of_ble_eq_true rfl⟩) (k_preV hK hW (shC_lt (rfl : shC 3 = 8) (by decide)) (ceC_8 (rfl : shC 3 = 8)) (q := (RX8, TX8, 5)) rfl) rfl rfl hl.1 rfl (lv_room (Nat.le_of_ble_eq_true rfl)) dX8_cutName_62 ⟨Nat.le_refl 0, Nat.le_refl 0⟩) (fun h11 H locs hq hW => ?_)
  refine lv_iload hx hb dX8_cutName_65 (lv_at hl 1 rfl) ?_
  exact k_iret rfl C hW dX8_cutName_67 hq
theorem k_X8_cutName_39 {o1 : Nat} (ho1 : shC o1 = 13) {no1 : Nat} (hno1 : lnC o1 = no1) {Q : Int32 → hp → Prop} {x3 : Int32} {x4 : Int32} {x5 : Int64} {h : hp} (C : kC p s m args meth c cX8_cutName 7 (some .int) RX8 wUX8_cutName) (hK : kK G s) {H : Heap} {locs : List Loc} {ls : Array Slot} (hW : kW SC G h (aS SC G) s H locs) (hl : lv_has ls 7 [(0, .ref (G.2.2 3)), (3, .int x3), (4, .int x4), (5, .long x5)]) (hq : w_X8_cutName_39 o1 no1 Q x3 x4 x5 h) : W p l e rmX8_cutName s m args below meth c H locs 0 0 (MQ below (va_Qi Q (kB SC G) (aS SC G)) args s 0 0 (aS SC G)) (F0 m 39 ls []) := by
  have hx := C.1
  have hb := C.2.1
  unfold w_X8_cutName_39 at hq
  refine lv_aload_n hx hb dX8_cutName_39 rfl (lv_at hl 0 rfl) ?_
  refine lv_iload hx hb dX8_cutName_40 (lv_at hl 2 rfl) ?_
  refine lv_iload_n hx hb dX8_cutName_42 rfl (lv_at hl 1 rfl) ?_
  refine lv_isub hx hb dX8_cutName_43 ?_
  refine lv_bipush (v := 8) hx hb dX8_cutName_44 (by decide) ?_
  refine lv_icmp_le (tgt := 53) hx hb dX8_cutName_46 (by decide) (fun c8 => ?_) (fun c8 => ?_)
  · have hq := hq.1 c8
    refine lv_aload_n hx hb dX8_cutName_53 rfl (lv_at hl 0 rfl) ?_
    refine lv_lload hx hb dX8_cutName_54 (lv_at hl 3 rfl) ?_
    refine k_ci hW (va_runV (As := [.long x5]) (rest := [.ref (G.2.2 3)]) (k_fix C) (c_X8_kindOf l G h x5 _ hq) (cwV 1 C.2.2.2.2.2.1 (gU_V mw379 mw380 mw381 mw51 mw382) rfl rfl rfl (by decide +kernel) ⟨Nat.le_of_ble_eq_true rfl, Nat.le_of_ble_eq_true rfl⟩) (k_preV hK hW (shC_lt (rfl : shC 3 = 8) (by decide)) (ceC_8 (rfl : shC 3 = 8)) (q := (RX8, TX8, 5)) rfl) rfl rfl hl.1 rfl (lv_room (Nat.le_of_ble_eq_true rfl)) dX8_cutName_56 ⟨Nat.le_refl 0, Nat.le_refl 0⟩) (fun r9 h10 H locs hq hW => ?_)
    rw [hq.1] at hW
    have hq := hq.2
    exact k_X8_cutName_59 ho1 hno1 C hK hW (lv_sub hl [1, 2, 3] rfl) hq
  · have hq := hq.2 c8
    refine lv_iconst (v := 1) hx hb dX8_cutName_49 (by decide) ?_
    refine lv_goto (tgt := 59) hx hb dX8_cutName_50 (by decide) ?_
    exact k_X8_cutName_59 ho1 hno1 C hK hW (lv_sub hl [1, 2, 3] rfl) hq
theorem k_X8_cutName_b6 {o1 : Nat} (ho1 : shC o1 = 13) {no1 : Nat} (hno1 : lnC o1 = no1) {Q : Int32 → hp → Prop} {X6 : Int32 × Int64 → Prop} {x2 : Int32} {x3 : Int32} {h : hp} (C : kC p s m args meth c cX8_cutName 7 (some .int) RX8 wUX8_cutName) (hK : kK G s) (hX6 : ∀ (x4 : Int32) (x5 : Int64) (H : Heap) (locs : List Loc) (ls : Array Slot), kW SC G h (aS SC G) s H locs → lv_has ls 7 [(0, .ref (G.2.2 3)), (1, .ref (G.2.2 o1)), (2, .int x2), (3, .int x3), (4, .int x4), (5, .long x5)] → X6 (x4, x5) → W p l e rmX8_cutName s m args below meth c H locs 0 0 (MQ below (va_Qi Q (kB SC G) (aS SC G)) args s 0 0 (aS SC G)) (F0 m 6 ls [])) {x4 : Int32} {x5 : Int64} {H : Heap} {locs : List Loc} {ls : Array Slot} (hW : kW SC G h (aS SC G) s H locs) (hl : lv_has ls 7 [(0, .ref (G.2.2 3)), (1, .ref (G.2.2 o1)), (2, .int x2), (3, .int x3), (4, .int x4), (5, .long x5)]) (hq : w_X8_cutName_b6 o1 no1 Q x2 x3 h X6 x4 x5) : W p l e rmX8_cutName s m args below meth c H locs 0 0 (MQ below (va_Qi Q (kB SC G) (aS SC G)) args s 0 0 (aS SC G)) (F0 m 6 ls []) := by
  have hx := C.1
  have hb := C.2.1
  unfold w_X8_cutName_b6 at hq
  refine lv_iload hx hb dX8_cutName_6 (lv_at hl 4 rfl) ?_
  refine lv_iload_n hx hb dX8_cutName_8 rfl (lv_at hl 2 rfl) ?_
  refine lv_icmp_ge (tgt := 39) hx hb dX8_cutName_9 (by decide) (fun c1 => ?_) (fun c1 => ?_)
  · have hq := hq.1 c1
    exact k_X8_cutName_39 ho1 hno1 C hK hW (lv_sub hl [0, 3, 4, 5] rfl) hq
  · have hq := hq.2 c1
    refine lv_aload_n hx hb dX8_cutName_12 rfl (lv_at hl 1 rfl) ?_
    refine lv_iload hx hb dX8_cutName_13 (lv_at hl 4 rfl) ?_
    refine k_bald C hK hW (shC_lt ho1 (by decide)) (ceC_13 ho1 hno1) hq.1 dX8_cutName_15 ?_
    have hq := hq.2
    refine k_ci hW (va_runS (As := [.int (gI h o1 (ix x4))]) (rest := []) (k_fix C) (c_X8_isLetter l G h (gI h o1 (ix x4)) _ hq) (va_cwS 1 C.2.2.2.2.2.1 (gU_S mw372 mw373 mw51 mw374) rfl rfl rfl (by decide +kernel) ⟨Nat.le_of_ble_eq_true rfl, Nat.le_of_ble_eq_true rfl⟩) (k_preS hK hW) rfl rfl hl.1 rfl (lv_room (Nat.le_of_ble_eq_true rfl)) dX8_cutName_16 ⟨Nat.le_refl 0, Nat.le_refl 0⟩) (fun r2 h3 H locs hq hW => ?_)
    rw [hq.1] at hW
    have hq := hq.2
    refine lv_if_eq (tgt := 39) hx hb dX8_cutName_19 (by decide) (fun c4 => ?_) (fun c4 => ?_)
    · have hq := hq.1 c4
      exact k_X8_cutName_39 ho1 hno1 C hK hW (lv_sub hl [0, 3, 4, 5] rfl) hq
    · have hq := hq.2 c4
      refine lv_lload hx hb dX8_cutName_22 (lv_at hl 5 rfl) ?_
      refine lv_aload_n hx hb dX8_cutName_24 rfl (lv_at hl 1 rfl) ?_
      refine lv_iload hx hb dX8_cutName_25 (lv_at hl 4 rfl) ?_
      refine k_bald C hK hW (shC_lt ho1 (by decide)) (ceC_13 ho1 hno1) hq.1 dX8_cutName_27 ?_
      have hq := hq.2
      refine k_cl hW (va_runS (As := [.long x5, .int (gI h o1 (ix x4))]) (rest := []) (k_fix C) (c_X8_withLetter l G h x5 (gI h o1 (ix x4)) _ hq) (va_cwS 2 C.2.2.2.2.2.1 (gU_S mw187 mw188 mw51 mw189) rfl rfl rfl (by decide +kernel) ⟨Nat.le_of_ble_eq_true rfl, Nat.le_of_ble_eq_true rfl⟩) (k_preS hK hW) rfl rfl hl.1 rfl (lv_room (Nat.le_of_ble_eq_true rfl)) dX8_cutName_28 ⟨Nat.le_refl 0, Nat.le_refl 0⟩) (fun r5 h6 H locs hq hW => ?_)
      rw [hq.1] at hW
      have hq := hq.2
      refine lv_lstore (lv' := [(5, .long r5), (0, .ref (G.2.2 3)), (1, .ref (G.2.2 o1)), (2, .int x2), (3, .int x3), (4, .int x4)]) hx hb dX8_cutName_31 hl (by decide) rfl (fun ls hl => ?_)
      obtain ⟨x4_7, ex4_7⟩ : ∃ y : Int32, y = x4 + 1 := ⟨_, rfl⟩
      have hq := hq x4_7 ex4_7
      refine lv_iinc (v := x4_7) (lv' := [(4, .int x4_7), (5, .long r5), (0, .ref (G.2.2 3)), (1, .ref (G.2.2 o1)), (2, .int x2), (3, .int x3)]) hx hb dX8_cutName_33 hl (k := 5) rfl (by rw [ex4_7]; rfl) (by decide) rfl (fun ls hl => ?_)
      refine lv_goto (tgt := 6) hx hb dX8_cutName_36 (by decide) ?_
      exact hX6 _ _ _ _ _ hW (lv_sub hl [2, 3, 4, 5, 0, 1] rfl) hq
theorem k_X8_cutName_6 {o1 : Nat} (ho1 : shC o1 = 13) {no1 : Nat} (hno1 : lnC o1 = no1) {Q : Int32 → hp → Prop} {x2 : Int32} {x3 : Int32} {h : hp} (C : kC p s m args meth c cX8_cutName 7 (some .int) RX8 wUX8_cutName) (hK : kK G s) {x4 : Int32} {x5 : Int64} {H : Heap} {locs : List Loc} {ls : Array Slot} (hW : kW SC G h (aS SC G) s H locs) (hl : lv_has ls 7 [(0, .ref (G.2.2 3)), (1, .ref (G.2.2 o1)), (2, .int x2), (3, .int x3), (4, .int x4), (5, .long x5)]) (hq : w_X8_cutName_6 o1 no1 Q x2 x3 h x4 x5) : W p l e rmX8_cutName s m args below meth c H locs 0 0 (MQ below (va_Qi Q (kB SC G) (aS SC G)) args s 0 0 (aS SC G)) (F0 m 6 ls []) := by
  have key := hq (fun (q : Int32 × Int64) => ∀ (H : Heap) (locs : List Loc) (ls : Array Slot), kW SC G h (aS SC G) s H locs → lv_has ls 7 [(0, .ref (G.2.2 3)), (1, .ref (G.2.2 o1)), (2, .int x2), (3, .int x3), (4, .int q.1), (5, .long q.2)] → W p l e rmX8_cutName s m args below meth c H locs 0 0 (MQ below (va_Qi Q (kB SC G) (aS SC G)) args s 0 0 (aS SC G)) (F0 m 6 ls []))
    (fun q hq H locs ls hW hl => k_X8_cutName_b6 ho1 hno1 C hK (fun x4 x5 H locs ls hW hl hI => hI H locs ls hW hl) hW hl hq)
  exact key _ _ _ hW hl
theorem k_X8_cutName_0 {o1 : Nat} (ho1 : shC o1 = 13) {no1 : Nat} (hno1 : lnC o1 = no1) {Q : Int32 → hp → Prop} {x2 : Int32} {x3 : Int32} {h : hp} (C : kC p s m args meth c cX8_cutName 7 (some .int) RX8 wUX8_cutName) (hK : kK G s) {H : Heap} {locs : List Loc} {ls : Array Slot} (hW : kW SC G h (aS SC G) s H locs) (hl : lv_has ls 7 [(0, .ref (G.2.2 3)), (1, .ref (G.2.2 o1)), (2, .int x2), (3, .int x3)]) (hq : w_X8_cutName_0 o1 no1 Q x2 x3 h) : W p l e rmX8_cutName s m args below meth c H locs 0 0 (MQ below (va_Qi Q (kB SC G) (aS SC G)) args s 0 0 (aS SC G)) (F0 m 0 ls []) := by
  have hx := C.1
  have hb := C.2.1
  unfold w_X8_cutName_0 at hq
  refine lv_iload_n hx hb dX8_cutName_0 rfl (lv_at hl 3 rfl) ?_
  refine lv_istore (lv' := [(4, .int x3), (0, .ref (G.2.2 3)), (1, .ref (G.2.2 o1)), (2, .int x2), (3, .int x3)]) hx hb dX8_cutName_1 hl (by decide) rfl (fun ls hl => ?_)
  refine lv_lconst (v := 0) hx hb dX8_cutName_3 (by decide) ?_
  refine lv_lstore (lv' := [(5, .long 0), (4, .int x3), (0, .ref (G.2.2 3)), (1, .ref (G.2.2 o1)), (2, .int x2), (3, .int x3)]) hx hb dX8_cutName_4 hl (by decide) rfl (fun ls hl => ?_)
  exact k_X8_cutName_6 ho1 hno1 C hK hW (lv_sub hl [2, 3, 4, 5, 1, 0] rfl) hq
theorem c_X8_cutName (l : Launch) (G : wG) {o1 : Nat} (ho1 : shC o1 = 13) {no1 : Nat} (hno1 : lnC o1 = no1) (h : hp) (x2 : Int32) (x3 : Int32) (Q : Int32 → hp → Prop) (hq : w_X8_cutName o1 no1 h x2 x3 Q) : ctI l SC G yX8_cutName wUX8_cutName rmX8_cutName h [.ref (G.2.2 3), .ref (G.2.2 o1), .int x2, .int x3] Q := by
  refine k_start (cc := cX8_cutName) (maxL := 7) (rt := (some .int)) (own := RX8) (by decide +kernel) rfl rfl (Nat.le_of_ble_eq_true rfl) ?_
  intro p e s m below meth c ls C hK hW hl
  exact k_X8_cutName_0 ho1 hno1 C hK hW hl hq
theorem k_X8_isDigit_0 {Q : Int32 → Prop} {x0 : Int32} {h : hp} (C : kC p s m args meth c cX8_isDigit 1 (some .boolean) RX8 wUX8_isDigit) (hK : kK G s) {H : Heap} {locs : List Loc} {ls : Array Slot} (hW : kW SC G h (aS SC G) s H locs) (hl : lv_has ls 1 [(0, .int x0)]) (hq : w_X8_isDigit_0 Q x0) : W p l e rmX8_isDigit s m args below meth c H locs 0 0 (MQ below (va_Qi (fun r9 h9 => h9 = h ∧ Q r9) (kB SC G) (aS SC G)) args s 0 0 (aS SC G)) (F0 m 0 ls []) := by
  have hx := C.1
  have hb := C.2.1
  unfold w_X8_isDigit_0 at hq
  refine lv_iload_n hx hb dX8_isDigit_0 rfl (lv_at hl 0 rfl) ?_
  refine lv_bipush (v := 48) hx hb dX8_isDigit_1 (by decide) ?_
  refine lv_icmp_lt (tgt := 16) hx hb dX8_isDigit_3 (by decide) (fun c1 => ?_) (fun c1 => ?_)
  · have hq := hq.1 c1
    refine lv_iconst (v := 0) hx hb dX8_isDigit_16 (by decide) ?_
    exact k_zret rfl isZ_0.1 C hW dX8_isDigit_17 ⟨rfl, hq⟩
  · have hq := hq.2 c1
    refine lv_iload_n hx hb dX8_isDigit_6 rfl (lv_at hl 0 rfl) ?_
    refine lv_bipush (v := 57) hx hb dX8_isDigit_7 (by decide) ?_
    refine lv_icmp_gt (tgt := 16) hx hb dX8_isDigit_9 (by decide) (fun c2 => ?_) (fun c2 => ?_)
    · have hq := hq.1 c2
      refine lv_iconst (v := 0) hx hb dX8_isDigit_16 (by decide) ?_
      exact k_zret rfl isZ_0.1 C hW dX8_isDigit_17 ⟨rfl, hq⟩
    · have hq := hq.2 c2
      refine lv_iconst (v := 1) hx hb dX8_isDigit_12 (by decide) ?_
      refine lv_goto (tgt := 17) hx hb dX8_isDigit_13 (by decide) ?_
      exact k_zret rfl isZ_1.1 C hW dX8_isDigit_17 ⟨rfl, hq⟩
theorem c_X8_isDigit (l : Launch) (G : wG) (h : hp) (x0 : Int32) (Q : Int32 → Prop) (hq : w_X8_isDigit x0 Q) : ctI l SC G yX8_isDigit wUX8_isDigit rmX8_isDigit h [.int x0] (fun r9 h9 => h9 = h ∧ Q r9) := by
  refine k_start (cc := cX8_isDigit) (maxL := 1) (rt := (some .boolean)) (own := RX8) (by decide +kernel) rfl rfl (Nat.le_of_ble_eq_true rfl) ?_
  intro p e s m below meth c ls C hK hW hl
  exact k_X8_isDigit_0 C hK hW hl hq
theorem k_X8_cutInt_57 {o1 : Nat} (ho1 : shC o1 = 13) {no1 : Nat} (hno1 : lnC o1 = no1) {Q : Int32 → hp → Prop} {x3 : Int32} {x4 : Int32} {x5 : Int32} {h : hp} {s0 : Int32} (C : kC p s m args meth c cX8_cutInt 6 (some .int) RX8 wUX8_cutInt) (hK : kK G s) {H : Heap} {locs : List Loc} {ls : Array Slot} (hW : kW SC G h (aS SC G) s H locs) (hl : lv_has ls 6 [(3, .int x3), (4, .int x4), (5, .int x5)]) (hq : w_X8_cutInt_57 o1 no1 Q x3 x4 x5 h s0) : W p l e rmX8_cutInt s m args below meth c H locs 0 0 (MQ below (va_Qi Q (kB SC G) (aS SC G)) args s 0 0 (aS SC G)) (F0 m 57 ls [.int s0, .ref (G.2.2 3)]) := by
  have hx := C.1
  have hb := C.2.1
  unfold w_X8_cutInt_57 at hq
  refine lv_iload_n hx hb dX8_cutInt_57 rfl (lv_at hl 0 rfl) ?_
  refine lv_iload hx hb dX8_cutInt_58 (lv_at hl 2 rfl) ?_
  refine lv_i2l (v := x5.toInt64) hx hb dX8_cutInt_60 rfl ?_
  refine k_cv hW (va_runV (As := [.int s0, .int x3, .long (x5.toInt64)]) (rest := []) (k_fix C) (c_X8_add l G h s0 x3 (x5.toInt64) _ hq) (cwV 3 C.2.2.2.2.2.1 (gU_V mw383 mw384 mw385 mw51 mw386) rfl rfl rfl (by decide +kernel) ⟨Nat.le_of_ble_eq_true rfl, Nat.le_of_ble_eq_true rfl⟩) (k_preV hK hW (shC_lt (rfl : shC 3 = 8) (by decide)) (ceC_8 (rfl : shC 3 = 8)) (q := (RX8, TX8, 5)) rfl) rfl rfl hl.1 rfl (lv_room (Nat.le_of_ble_eq_true rfl)) dX8_cutInt_61 ⟨Nat.le_refl 0, Nat.le_refl 0⟩) (fun h8 H locs hq hW => ?_)
  refine lv_iload hx hb dX8_cutInt_64 (lv_at hl 1 rfl) ?_
  exact k_iret rfl C hW dX8_cutInt_66 hq
theorem k_X8_cutInt_43 {o1 : Nat} (ho1 : shC o1 = 13) {no1 : Nat} (hno1 : lnC o1 = no1) {Q : Int32 → hp → Prop} {x3 : Int32} {x4 : Int32} {x5 : Int32} {h : hp} (C : kC p s m args meth c cX8_cutInt 6 (some .int) RX8 wUX8_cutInt) (hK : kK G s) {H : Heap} {locs : List Loc} {ls : Array Slot} (hW : kW SC G h (aS SC G) s H locs) (hl : lv_has ls 6 [(0, .ref (G.2.2 3)), (3, .int x3), (4, .int x4), (5, .int x5)]) (hq : w_X8_cutInt_43 o1 no1 Q x3 x4 x5 h) : W p l e rmX8_cutInt s m args below meth c H locs 0 0 (MQ below (va_Qi Q (kB SC G) (aS SC G)) args s 0 0 (aS SC G)) (F0 m 43 ls []) := by
  have hx := C.1
  have hb := C.2.1
  unfold w_X8_cutInt_43 at hq
  refine lv_aload_n hx hb dX8_cutInt_43 rfl (lv_at hl 0 rfl) ?_
  refine lv_iload hx hb dX8_cutInt_44 (lv_at hl 2 rfl) ?_
  refine lv_iload_n hx hb dX8_cutInt_46 rfl (lv_at hl 1 rfl) ?_
  refine lv_isub hx hb dX8_cutInt_47 ?_
  refine lv_iconst (v := 4) hx hb dX8_cutInt_48 (by decide) ?_
  refine lv_icmp_le (tgt := 56) hx hb dX8_cutInt_49 (by decide) (fun c7 => ?_) (fun c7 => ?_)
  · have hq := hq.1 c7
    refine lv_iconst (v := 3) hx hb dX8_cutInt_56 (by decide) ?_
    exact k_X8_cutInt_57 ho1 hno1 C hK hW (lv_sub hl [1, 2, 3] rfl) hq
  · have hq := hq.2 c7
    refine lv_iconst (v := 1) hx hb dX8_cutInt_52 (by decide) ?_
    refine lv_goto (tgt := 57) hx hb dX8_cutInt_53 (by decide) ?_
    exact k_X8_cutInt_57 ho1 hno1 C hK hW (lv_sub hl [1, 2, 3] rfl) hq
theorem k_X8_cutInt_b6 {o1 : Nat} (ho1 : shC o1 = 13) {no1 : Nat} (hno1 : lnC o1 = no1) {Q : Int32 → hp → Prop} {X6 : Int32 × Int32 → Prop} {x2 : Int32} {x3 : Int32} {h : hp} (C : kC p s m args meth c cX8_cutInt 6 (some .int) RX8 wUX8_cutInt) (hK : kK G s) (hX6 : ∀ (x4 : Int32) (x5 : Int32) (H : Heap) (locs : List Loc) (ls : Array Slot), kW SC G h (aS SC G) s H locs → lv_has ls 6 [(0, .ref (G.2.2 3)), (1, .ref (G.2.2 o1)), (2, .int x2), (3, .int x3), (4, .int x4), (5, .int x5)] → X6 (x4, x5) → W p l e rmX8_cutInt s m args below meth c H locs 0 0 (MQ below (va_Qi Q (kB SC G) (aS SC G)) args s 0 0 (aS SC G)) (F0 m 6 ls [])) {x4 : Int32} {x5 : Int32} {H : Heap} {locs : List Loc} {ls : Array Slot} (hW : kW SC G h (aS SC G) s H locs) (hl : lv_has ls 6 [(0, .ref (G.2.2 3)), (1, .ref (G.2.2 o1)), (2, .int x2), (3, .int x3), (4, .int x4), (5, .int x5)]) (hq : w_X8_cutInt_b6 o1 no1 Q x2 x3 h X6 x4 x5) : W p l e rmX8_cutInt s m args below meth c H locs 0 0 (MQ below (va_Qi Q (kB SC G) (aS SC G)) args s 0 0 (aS SC G)) (F0 m 6 ls []) := by
  have hx := C.1
  have hb := C.2.1
  unfold w_X8_cutInt_b6 at hq
  refine lv_iload hx hb dX8_cutInt_6 (lv_at hl 4 rfl) ?_
  refine lv_iload_n hx hb dX8_cutInt_8 rfl (lv_at hl 2 rfl) ?_
  refine lv_icmp_ge (tgt := 43) hx hb dX8_cutInt_9 (by decide) (fun c1 => ?_) (fun c1 => ?_)
  · have hq := hq.1 c1
    exact k_X8_cutInt_43 ho1 hno1 C hK hW (lv_sub hl [0, 3, 4, 5] rfl) hq
  · have hq := hq.2 c1
    refine lv_aload_n hx hb dX8_cutInt_12 rfl (lv_at hl 1 rfl) ?_
    refine lv_iload hx hb dX8_cutInt_13 (lv_at hl 4 rfl) ?_
    refine k_bald C hK hW (shC_lt ho1 (by decide)) (ceC_13 ho1 hno1) hq.1 dX8_cutInt_15 ?_
    have hq := hq.2
    refine k_ci hW (va_runS (As := [.int (gI h o1 (ix x4))]) (rest := []) (k_fix C) (c_X8_isDigit l G h (gI h o1 (ix x4)) _ hq) (va_cwS 1 C.2.2.2.2.2.1 (gU_S mw387 mw388 mw51 mw389) rfl rfl rfl (by decide +kernel) ⟨Nat.le_of_ble_eq_true rfl, Nat.le_of_ble_eq_true rfl⟩) (k_preS hK hW) rfl rfl hl.1 rfl (lv_room (Nat.le_of_ble_eq_true rfl)) dX8_cutInt_16 ⟨Nat.le_refl 0, Nat.le_refl 0⟩) (fun r2 h3 H locs hq hW => ?_)
    rw [hq.1] at hW
    have hq := hq.2
    refine lv_if_eq (tgt := 43) hx hb dX8_cutInt_19 (by decide) (fun c4 => ?_) (fun c4 => ?_)
    · have hq := hq.1 c4
      exact k_X8_cutInt_43 ho1 hno1 C hK hW (lv_sub hl [0, 3, 4, 5] rfl) hq
    · have hq := hq.2 c4
      refine lv_iload hx hb dX8_cutInt_22 (lv_at hl 5 rfl) ?_
      refine lv_bipush (v := 10) hx hb dX8_cutInt_24 (by decide) ?_
      refine lv_imul hx hb dX8_cutInt_26 ?_
      refine lv_aload_n hx hb dX8_cutInt_27 rfl (lv_at hl 1 rfl) ?_
      refine lv_iload hx hb dX8_cutInt_28 (lv_at hl 4 rfl) ?_
      refine k_bald C hK hW (shC_lt ho1 (by decide)) (ceC_13 ho1 hno1) hq.1 dX8_cutInt_30 ?_
      have hq := hq.2
      refine lv_bipush (v := 48) hx hb dX8_cutInt_31 (by decide) ?_
      refine lv_isub hx hb dX8_cutInt_33 ?_
      refine lv_iadd hx hb dX8_cutInt_34 ?_
      refine lv_topi (fun x5_5 ex5_5 => ?_)
      have hq := hq x5_5 ex5_5
      refine lv_istore (lv' := [(5, .int x5_5), (0, .ref (G.2.2 3)), (1, .ref (G.2.2 o1)), (2, .int x2), (3, .int x3), (4, .int x4)]) hx hb dX8_cutInt_35 hl (by decide) rfl (fun ls hl => ?_)
      obtain ⟨x4_6, ex4_6⟩ : ∃ y : Int32, y = x4 + 1 := ⟨_, rfl⟩
      have hq := hq x4_6 ex4_6
      refine lv_iinc (v := x4_6) (lv' := [(4, .int x4_6), (5, .int x5_5), (0, .ref (G.2.2 3)), (1, .ref (G.2.2 o1)), (2, .int x2), (3, .int x3)]) hx hb dX8_cutInt_37 hl (k := 5) rfl (by rw [ex4_6]; rfl) (by decide) rfl (fun ls hl => ?_)
      refine lv_goto (tgt := 6) hx hb dX8_cutInt_40 (by decide) ?_
      exact hX6 _ _ _ _ _ hW (lv_sub hl [2, 3, 4, 5, 0, 1] rfl) hq
theorem k_X8_cutInt_6 {o1 : Nat} (ho1 : shC o1 = 13) {no1 : Nat} (hno1 : lnC o1 = no1) {Q : Int32 → hp → Prop} {x2 : Int32} {x3 : Int32} {h : hp} (C : kC p s m args meth c cX8_cutInt 6 (some .int) RX8 wUX8_cutInt) (hK : kK G s) {x4 : Int32} {x5 : Int32} {H : Heap} {locs : List Loc} {ls : Array Slot} (hW : kW SC G h (aS SC G) s H locs) (hl : lv_has ls 6 [(0, .ref (G.2.2 3)), (1, .ref (G.2.2 o1)), (2, .int x2), (3, .int x3), (4, .int x4), (5, .int x5)]) (hq : w_X8_cutInt_6 o1 no1 Q x2 x3 h x4 x5) : W p l e rmX8_cutInt s m args below meth c H locs 0 0 (MQ below (va_Qi Q (kB SC G) (aS SC G)) args s 0 0 (aS SC G)) (F0 m 6 ls []) := by
  have key := hq (fun (q : Int32 × Int32) => ∀ (H : Heap) (locs : List Loc) (ls : Array Slot), kW SC G h (aS SC G) s H locs → lv_has ls 6 [(0, .ref (G.2.2 3)), (1, .ref (G.2.2 o1)), (2, .int x2), (3, .int x3), (4, .int q.1), (5, .int q.2)] → W p l e rmX8_cutInt s m args below meth c H locs 0 0 (MQ below (va_Qi Q (kB SC G) (aS SC G)) args s 0 0 (aS SC G)) (F0 m 6 ls []))
    (fun q hq H locs ls hW hl => k_X8_cutInt_b6 ho1 hno1 C hK (fun x4 x5 H locs ls hW hl hI => hI H locs ls hW hl) hW hl hq)
  exact key _ _ _ hW hl
theorem k_X8_cutInt_0 {o1 : Nat} (ho1 : shC o1 = 13) {no1 : Nat} (hno1 : lnC o1 = no1) {Q : Int32 → hp → Prop} {x2 : Int32} {x3 : Int32} {h : hp} (C : kC p s m args meth c cX8_cutInt 6 (some .int) RX8 wUX8_cutInt) (hK : kK G s) {H : Heap} {locs : List Loc} {ls : Array Slot} (hW : kW SC G h (aS SC G) s H locs) (hl : lv_has ls 6 [(0, .ref (G.2.2 3)), (1, .ref (G.2.2 o1)), (2, .int x2), (3, .int x3)]) (hq : w_X8_cutInt_0 o1 no1 Q x2 x3 h) : W p l e rmX8_cutInt s m args below meth c H locs 0 0 (MQ below (va_Qi Q (kB SC G) (aS SC G)) args s 0 0 (aS SC G)) (F0 m 0 ls []) := by
  have hx := C.1
  have hb := C.2.1
  unfold w_X8_cutInt_0 at hq
  refine lv_iload_n hx hb dX8_cutInt_0 rfl (lv_at hl 3 rfl) ?_
  refine lv_istore (lv' := [(4, .int x3), (0, .ref (G.2.2 3)), (1, .ref (G.2.2 o1)), (2, .int x2), (3, .int x3)]) hx hb dX8_cutInt_1 hl (by decide) rfl (fun ls hl => ?_)
  refine lv_iconst (v := 0) hx hb dX8_cutInt_3 (by decide) ?_
  refine lv_istore (lv' := [(5, .int 0), (4, .int x3), (0, .ref (G.2.2 3)), (1, .ref (G.2.2 o1)), (2, .int x2), (3, .int x3)]) hx hb dX8_cutInt_4 hl (by decide) rfl (fun ls hl => ?_)
  exact k_X8_cutInt_6 ho1 hno1 C hK hW (lv_sub hl [2, 3, 4, 5, 1, 0] rfl) hq
theorem c_X8_cutInt (l : Launch) (G : wG) {o1 : Nat} (ho1 : shC o1 = 13) {no1 : Nat} (hno1 : lnC o1 = no1) (h : hp) (x2 : Int32) (x3 : Int32) (Q : Int32 → hp → Prop) (hq : w_X8_cutInt o1 no1 h x2 x3 Q) : ctI l SC G yX8_cutInt wUX8_cutInt rmX8_cutInt h [.ref (G.2.2 3), .ref (G.2.2 o1), .int x2, .int x3] Q := by
  refine k_start (cc := cX8_cutInt) (maxL := 6) (rt := (some .int)) (own := RX8) (by decide +kernel) rfl rfl (Nat.le_of_ble_eq_true rfl) ?_
  intro p e s m below meth c ls C hK hW hl
  exact k_X8_cutInt_0 ho1 hno1 C hK hW hl hq
theorem k_X8_isSign_0 {Q : Int32 → Prop} {x0 : Int32} {h : hp} (C : kC p s m args meth c cX8_isSign 1 (some .boolean) RX8 wUX8_isSign) (hK : kK G s) {H : Heap} {locs : List Loc} {ls : Array Slot} (hW : kW SC G h (aS SC G) s H locs) (hl : lv_has ls 1 [(0, .int x0)]) (hq : w_X8_isSign_0 Q x0) : W p l e rmX8_isSign s m args below meth c H locs 0 0 (MQ below (va_Qi (fun r9 h9 => h9 = h ∧ Q r9) (kB SC G) (aS SC G)) args s 0 0 (aS SC G)) (F0 m 0 ls []) := by
  have hx := C.1
  have hb := C.2.1
  unfold w_X8_isSign_0 at hq
  refine lv_iload_n hx hb dX8_isSign_0 rfl (lv_at hl 0 rfl) ?_
  refine lv_topi (fun sw1 esw1 => ?_)
  have hq := hq sw1 esw1
  by_cases c2 : sw1 = 40
  · have hq := hq.1 c2
    refine k_top c2 ?_
    refine lv_tableIn (tgt := 104) (off := 103) hx hb dX8_isSign_1 (by decide) (by decide) (by decide) (by decide) ?_
    refine lv_iconst (v := 1) hx hb dX8_isSign_104 (by decide) ?_
    exact k_zret rfl isZ_1.1 C hW dX8_isSign_105 ⟨rfl, hq⟩
  have hq := hq.2
  by_cases c3 : sw1 = 41
  · have hq := hq.1 c3
    refine k_top c3 ?_
    refine lv_tableIn (tgt := 104) (off := 103) hx hb dX8_isSign_1 (by decide) (by decide) (by decide) (by decide) ?_
    refine lv_iconst (v := 1) hx hb dX8_isSign_104 (by decide) ?_
    exact k_zret rfl isZ_1.1 C hW dX8_isSign_105 ⟨rfl, hq⟩
  have hq := hq.2
  by_cases c4 : sw1 = 42
  · have hq := hq.1 c4
    refine k_top c4 ?_
    refine lv_tableIn (tgt := 104) (off := 103) hx hb dX8_isSign_1 (by decide) (by decide) (by decide) (by decide) ?_
    refine lv_iconst (v := 1) hx hb dX8_isSign_104 (by decide) ?_
    exact k_zret rfl isZ_1.1 C hW dX8_isSign_105 ⟨rfl, hq⟩
  have hq := hq.2
  by_cases c5 : sw1 = 43
  · have hq := hq.1 c5
    refine k_top c5 ?_
    refine lv_tableIn (tgt := 104) (off := 103) hx hb dX8_isSign_1 (by decide) (by decide) (by decide) (by decide) ?_
    refine lv_iconst (v := 1) hx hb dX8_isSign_104 (by decide) ?_
    exact k_zret rfl isZ_1.1 C hW dX8_isSign_105 ⟨rfl, hq⟩
  have hq := hq.2
  by_cases c6 : sw1 = 44
  · have hq := hq.1 c6
    refine k_top c6 ?_
    refine lv_tableIn (tgt := 106) (off := 105) hx hb dX8_isSign_1 (by decide) (by decide) (by decide) (by decide) ?_
    refine lv_iconst (v := 0) hx hb dX8_isSign_106 (by decide) ?_
    exact k_zret rfl isZ_0.1 C hW dX8_isSign_107 ⟨rfl, hq⟩
  have hq := hq.2
  by_cases c7 : sw1 = 45
  · have hq := hq.1 c7
    refine k_top c7 ?_
    refine lv_tableIn (tgt := 104) (off := 103) hx hb dX8_isSign_1 (by decide) (by decide) (by decide) (by decide) ?_
    refine lv_iconst (v := 1) hx hb dX8_isSign_104 (by decide) ?_
    exact k_zret rfl isZ_1.1 C hW dX8_isSign_105 ⟨rfl, hq⟩
  have hq := hq.2
  by_cases c8 : sw1 = 46
  · have hq := hq.1 c8
    refine k_top c8 ?_
    refine lv_tableIn (tgt := 106) (off := 105) hx hb dX8_isSign_1 (by decide) (by decide) (by decide) (by decide) ?_
    refine lv_iconst (v := 0) hx hb dX8_isSign_106 (by decide) ?_
    exact k_zret rfl isZ_0.1 C hW dX8_isSign_107 ⟨rfl, hq⟩
  have hq := hq.2
  by_cases c9 : sw1 = 47
  · have hq := hq.1 c9
    refine k_top c9 ?_
    refine lv_tableIn (tgt := 104) (off := 103) hx hb dX8_isSign_1 (by decide) (by decide) (by decide) (by decide) ?_
    refine lv_iconst (v := 1) hx hb dX8_isSign_104 (by decide) ?_
    exact k_zret rfl isZ_1.1 C hW dX8_isSign_105 ⟨rfl, hq⟩
  have hq := hq.2
  by_cases c10 : sw1 = 48
  · have hq := hq.1 c10
    refine k_top c10 ?_
    refine lv_tableIn (tgt := 106) (off := 105) hx hb dX8_isSign_1 (by decide) (by decide) (by decide) (by decide) ?_
    refine lv_iconst (v := 0) hx hb dX8_isSign_106 (by decide) ?_
    exact k_zret rfl isZ_0.1 C hW dX8_isSign_107 ⟨rfl, hq⟩
  have hq := hq.2
  by_cases c11 : sw1 = 49
  · have hq := hq.1 c11
    refine k_top c11 ?_
    refine lv_tableIn (tgt := 106) (off := 105) hx hb dX8_isSign_1 (by decide) (by decide) (by decide) (by decide) ?_
    refine lv_iconst (v := 0) hx hb dX8_isSign_106 (by decide) ?_
    exact k_zret rfl isZ_0.1 C hW dX8_isSign_107 ⟨rfl, hq⟩
  have hq := hq.2
  by_cases c12 : sw1 = 50
  · have hq := hq.1 c12
    refine k_top c12 ?_
    refine lv_tableIn (tgt := 106) (off := 105) hx hb dX8_isSign_1 (by decide) (by decide) (by decide) (by decide) ?_
    refine lv_iconst (v := 0) hx hb dX8_isSign_106 (by decide) ?_
    exact k_zret rfl isZ_0.1 C hW dX8_isSign_107 ⟨rfl, hq⟩
  have hq := hq.2
  by_cases c13 : sw1 = 51
  · have hq := hq.1 c13
    refine k_top c13 ?_
    refine lv_tableIn (tgt := 106) (off := 105) hx hb dX8_isSign_1 (by decide) (by decide) (by decide) (by decide) ?_
    refine lv_iconst (v := 0) hx hb dX8_isSign_106 (by decide) ?_
    exact k_zret rfl isZ_0.1 C hW dX8_isSign_107 ⟨rfl, hq⟩
  have hq := hq.2
  by_cases c14 : sw1 = 52
  · have hq := hq.1 c14
    refine k_top c14 ?_
    refine lv_tableIn (tgt := 106) (off := 105) hx hb dX8_isSign_1 (by decide) (by decide) (by decide) (by decide) ?_
    refine lv_iconst (v := 0) hx hb dX8_isSign_106 (by decide) ?_
    exact k_zret rfl isZ_0.1 C hW dX8_isSign_107 ⟨rfl, hq⟩
  have hq := hq.2
  by_cases c15 : sw1 = 53
  · have hq := hq.1 c15
    refine k_top c15 ?_
    refine lv_tableIn (tgt := 106) (off := 105) hx hb dX8_isSign_1 (by decide) (by decide) (by decide) (by decide) ?_
    refine lv_iconst (v := 0) hx hb dX8_isSign_106 (by decide) ?_
    exact k_zret rfl isZ_0.1 C hW dX8_isSign_107 ⟨rfl, hq⟩
  have hq := hq.2
  by_cases c16 : sw1 = 54
  · have hq := hq.1 c16
    refine k_top c16 ?_
    refine lv_tableIn (tgt := 106) (off := 105) hx hb dX8_isSign_1 (by decide) (by decide) (by decide) (by decide) ?_
    refine lv_iconst (v := 0) hx hb dX8_isSign_106 (by decide) ?_
    exact k_zret rfl isZ_0.1 C hW dX8_isSign_107 ⟨rfl, hq⟩
  have hq := hq.2
  by_cases c17 : sw1 = 55
  · have hq := hq.1 c17
    refine k_top c17 ?_
    refine lv_tableIn (tgt := 106) (off := 105) hx hb dX8_isSign_1 (by decide) (by decide) (by decide) (by decide) ?_
    refine lv_iconst (v := 0) hx hb dX8_isSign_106 (by decide) ?_
    exact k_zret rfl isZ_0.1 C hW dX8_isSign_107 ⟨rfl, hq⟩
  have hq := hq.2
  by_cases c18 : sw1 = 56
  · have hq := hq.1 c18
    refine k_top c18 ?_
    refine lv_tableIn (tgt := 106) (off := 105) hx hb dX8_isSign_1 (by decide) (by decide) (by decide) (by decide) ?_
    refine lv_iconst (v := 0) hx hb dX8_isSign_106 (by decide) ?_
    exact k_zret rfl isZ_0.1 C hW dX8_isSign_107 ⟨rfl, hq⟩
  have hq := hq.2
  by_cases c19 : sw1 = 57
  · have hq := hq.1 c19
    refine k_top c19 ?_
    refine lv_tableIn (tgt := 106) (off := 105) hx hb dX8_isSign_1 (by decide) (by decide) (by decide) (by decide) ?_
    refine lv_iconst (v := 0) hx hb dX8_isSign_106 (by decide) ?_
    exact k_zret rfl isZ_0.1 C hW dX8_isSign_107 ⟨rfl, hq⟩
  have hq := hq.2
  by_cases c20 : sw1 = 58
  · have hq := hq.1 c20
    refine k_top c20 ?_
    refine lv_tableIn (tgt := 106) (off := 105) hx hb dX8_isSign_1 (by decide) (by decide) (by decide) (by decide) ?_
    refine lv_iconst (v := 0) hx hb dX8_isSign_106 (by decide) ?_
    exact k_zret rfl isZ_0.1 C hW dX8_isSign_107 ⟨rfl, hq⟩
  have hq := hq.2
  by_cases c21 : sw1 = 59
  · have hq := hq.1 c21
    refine k_top c21 ?_
    refine lv_tableIn (tgt := 104) (off := 103) hx hb dX8_isSign_1 (by decide) (by decide) (by decide) (by decide) ?_
    refine lv_iconst (v := 1) hx hb dX8_isSign_104 (by decide) ?_
    exact k_zret rfl isZ_1.1 C hW dX8_isSign_105 ⟨rfl, hq⟩
  have hq := hq.2
  by_cases c22 : sw1 = 60
  · have hq := hq.1 c22
    refine k_top c22 ?_
    refine lv_tableIn (tgt := 104) (off := 103) hx hb dX8_isSign_1 (by decide) (by decide) (by decide) (by decide) ?_
    refine lv_iconst (v := 1) hx hb dX8_isSign_104 (by decide) ?_
    exact k_zret rfl isZ_1.1 C hW dX8_isSign_105 ⟨rfl, hq⟩
  have hq := hq.2
  by_cases c23 : sw1 = 61
  · have hq := hq.1 c23
    refine k_top c23 ?_
    refine lv_tableIn (tgt := 104) (off := 103) hx hb dX8_isSign_1 (by decide) (by decide) (by decide) (by decide) ?_
    refine lv_iconst (v := 1) hx hb dX8_isSign_104 (by decide) ?_
    exact k_zret rfl isZ_1.1 C hW dX8_isSign_105 ⟨rfl, hq⟩
  have hq := hq.2
  have c24 : sw1.toInt < 40 ∨ 61 < sw1.toInt := by
    rcases Int.lt_or_le sw1.toInt 40 with q | q
    · exact Or.inl q
    · refine Or.inr (Int.not_le.mp fun q2 => ?_)
      have q3 : sw1 = Int32.ofInt sw1.toInt := (Int32.ofInt_toInt sw1).symm
      have q4 : sw1.toInt = 40 ∨ sw1.toInt = 41 ∨ sw1.toInt = 42 ∨ sw1.toInt = 43 ∨ sw1.toInt = 44 ∨ sw1.toInt = 45 ∨ sw1.toInt = 46 ∨ sw1.toInt = 47 ∨ sw1.toInt = 48 ∨ sw1.toInt = 49 ∨ sw1.toInt = 50 ∨ sw1.toInt = 51 ∨ sw1.toInt = 52 ∨ sw1.toInt = 53 ∨ sw1.toInt = 54 ∨ sw1.toInt = 55 ∨ sw1.toInt = 56 ∨ sw1.toInt = 57 ∨ sw1.toInt = 58 ∨ sw1.toInt = 59 ∨ sw1.toInt = 60 ∨ sw1.toInt = 61 := by omega
      rcases q4 with q4 | q4 | q4 | q4 | q4 | q4 | q4 | q4 | q4 | q4 | q4 | q4 | q4 | q4 | q4 | q4 | q4 | q4 | q4 | q4 | q4 | q4 <;> rw [q4] at q3 <;> simp_all
  refine lv_tableOut (tgt := 106) hx hb dX8_isSign_1 c24 (by decide) ?_
  have hq := hq c24
  refine lv_iconst (v := 0) hx hb dX8_isSign_106 (by decide) ?_
  exact k_zret rfl isZ_0.1 C hW dX8_isSign_107 ⟨rfl, hq⟩
theorem c_X8_isSign (l : Launch) (G : wG) (h : hp) (x0 : Int32) (Q : Int32 → Prop) (hq : w_X8_isSign x0 Q) : ctI l SC G yX8_isSign wUX8_isSign rmX8_isSign h [.int x0] (fun r9 h9 => h9 = h ∧ Q r9) := by
  refine k_start (cc := cX8_isSign) (maxL := 1) (rt := (some .boolean)) (own := RX8) (by decide +kernel) rfl rfl (Nat.le_of_ble_eq_true rfl) ?_
  intro p e s m below meth c ls C hK hW hl
  exact k_X8_isSign_0 C hK hW hl hq
theorem k_X8_cutOne_52 {o1 : Nat} (ho1 : shC o1 = 13) {no1 : Nat} (hno1 : lnC o1 = no1) {Q : Int32 → hp → Prop} {x3 : Int32} {h : hp} {s0 : Int32} (C : kC p s m args meth c cX8_cutOne 5 (some .int) RX8 wUX8_cutOne) (hK : kK G s) {H : Heap} {locs : List Loc} {ls : Array Slot} (hW : kW SC G h (aS SC G) s H locs) (hl : lv_has ls 5 [(3, .int x3)]) (hq : w_X8_cutOne_52 o1 no1 Q x3 h s0) : W p l e rmX8_cutOne s m args below meth c H locs 0 0 (MQ below (va_Qi Q (kB SC G) (aS SC G)) args s 0 0 (aS SC G)) (F0 m 52 ls [.int s0, .ref (G.2.2 3)]) := by
  have hx := C.1
  have hb := C.2.1
  unfold w_X8_cutOne_52 at hq
  refine lv_iload_n hx hb dX8_cutOne_52 rfl (lv_at hl 0 rfl) ?_
  refine lv_lconst (v := 0) hx hb dX8_cutOne_53 (by decide) ?_
  refine k_cv hW (va_runV (As := [.int s0, .int x3, .long 0]) (rest := []) (k_fix C) (c_X8_add l G h s0 x3 0 _ hq) (cwV 3 C.2.2.2.2.2.1 (gU_V mw383 mw384 mw385 mw51 mw386) rfl rfl rfl (by decide +kernel) ⟨Nat.le_of_ble_eq_true rfl, Nat.le_of_ble_eq_true rfl⟩) (k_preV hK hW (shC_lt (rfl : shC 3 = 8) (by decide)) (ceC_8 (rfl : shC 3 = 8)) (q := (RX8, TX8, 5)) rfl) rfl rfl hl.1 rfl (lv_room (Nat.le_of_ble_eq_true rfl)) dX8_cutOne_54 ⟨Nat.le_refl 0, Nat.le_refl 0⟩) (fun h15 H locs hq hW => ?_)
  refine lv_iload_n hx hb dX8_cutOne_57 rfl (lv_at hl 0 rfl) ?_
  refine lv_iconst (v := 1) hx hb dX8_cutOne_58 (by decide) ?_
  refine lv_iadd hx hb dX8_cutOne_59 ?_
  exact k_iret rfl C hW dX8_cutOne_60 hq
theorem k_X8_cutOne_0 {o1 : Nat} (ho1 : shC o1 = 13) {no1 : Nat} (hno1 : lnC o1 = no1) {Q : Int32 → hp → Prop} {x2 : Int32} {x3 : Int32} {h : hp} (C : kC p s m args meth c cX8_cutOne 5 (some .int) RX8 wUX8_cutOne) (hK : kK G s) {H : Heap} {locs : List Loc} {ls : Array Slot} (hW : kW SC G h (aS SC G) s H locs) (hl : lv_has ls 5 [(0, .ref (G.2.2 3)), (1, .ref (G.2.2 o1)), (2, .int x2), (3, .int x3)]) (hq : w_X8_cutOne_0 o1 no1 Q x2 x3 h) : W p l e rmX8_cutOne s m args below meth c H locs 0 0 (MQ below (va_Qi Q (kB SC G) (aS SC G)) args s 0 0 (aS SC G)) (F0 m 0 ls []) := by
  have hx := C.1
  have hb := C.2.1
  unfold w_X8_cutOne_0 at hq
  refine lv_aload_n hx hb dX8_cutOne_0 rfl (lv_at hl 1 rfl) ?_
  refine lv_iload_n hx hb dX8_cutOne_1 rfl (lv_at hl 3 rfl) ?_
  refine k_bald C hK hW (shC_lt ho1 (by decide)) (ceC_13 ho1 hno1) hq.1 dX8_cutOne_2 ?_
  have hq := hq.2
  refine lv_topi (fun x4_1 ex4_1 => ?_)
  have hq := hq x4_1 ex4_1
  refine lv_istore (lv' := [(4, .int x4_1), (0, .ref (G.2.2 3)), (1, .ref (G.2.2 o1)), (2, .int x2), (3, .int x3)]) hx hb dX8_cutOne_3 hl (by decide) rfl (fun ls hl => ?_)
  refine lv_iload hx hb dX8_cutOne_5 (lv_at hl 0 rfl) ?_
  refine k_ci hW (va_runS (As := [.int x4_1]) (rest := []) (k_fix C) (c_X8_isLetter l G h x4_1 _ hq) (va_cwS 1 C.2.2.2.2.2.1 (gU_S mw372 mw373 mw51 mw374) rfl rfl rfl (by decide +kernel) ⟨Nat.le_of_ble_eq_true rfl, Nat.le_of_ble_eq_true rfl⟩) (k_preS hK hW) rfl rfl hl.1 rfl (lv_room (Nat.le_of_ble_eq_true rfl)) dX8_cutOne_7 ⟨Nat.le_refl 0, Nat.le_refl 0⟩) (fun r2 h3 H locs hq hW => ?_)
  rw [hq.1] at hW
  have hq := hq.2
  refine lv_if_eq (tgt := 21) hx hb dX8_cutOne_10 (by decide) (fun c4 => ?_) (fun c4 => ?_)
  · have hq := hq.1 c4
    refine lv_iload hx hb dX8_cutOne_21 (lv_at hl 0 rfl) ?_
    refine k_ci hW (va_runS (As := [.int x4_1]) (rest := []) (k_fix C) (c_X8_isDigit l G h x4_1 _ hq) (va_cwS 1 C.2.2.2.2.2.1 (gU_S mw387 mw388 mw51 mw389) rfl rfl rfl (by decide +kernel) ⟨Nat.le_of_ble_eq_true rfl, Nat.le_of_ble_eq_true rfl⟩) (k_preS hK hW) rfl rfl hl.1 rfl (lv_room (Nat.le_of_ble_eq_true rfl)) dX8_cutOne_23 ⟨Nat.le_refl 0, Nat.le_refl 0⟩) (fun r5 h6 H locs hq hW => ?_)
    rw [hq.1] at hW
    have hq := hq.2
    refine lv_if_eq (tgt := 37) hx hb dX8_cutOne_26 (by decide) (fun c7 => ?_) (fun c7 => ?_)
    · have hq := hq.1 c7
      refine lv_aload_n hx hb dX8_cutOne_37 rfl (lv_at hl 1 rfl) ?_
      refine lv_iload hx hb dX8_cutOne_38 (lv_at hl 0 rfl) ?_
      refine k_ci hW (va_runS (As := [.int x4_1]) (rest := [.ref (G.2.2 3)]) (k_fix C) (c_X8_isSign l G h x4_1 _ hq) (va_cwS 1 C.2.2.2.2.2.1 (gU_S mw394 mw395 mw51 mw396) rfl rfl rfl (by decide +kernel) ⟨Nat.le_of_ble_eq_true rfl, Nat.le_of_ble_eq_true rfl⟩) (k_preS hK hW) rfl rfl hl.1 rfl (lv_room (Nat.le_of_ble_eq_true rfl)) dX8_cutOne_40 ⟨Nat.le_refl 0, Nat.le_refl 0⟩) (fun r8 h9 H locs hq hW => ?_)
      rw [hq.1] at hW
      have hq := hq.2
      refine lv_if_eq (tgt := 51) hx hb dX8_cutOne_43 (by decide) (fun c10 => ?_) (fun c10 => ?_)
      · have hq := hq.1 c10
        refine lv_iconst (v := 1) hx hb dX8_cutOne_51 (by decide) ?_
        exact k_X8_cutOne_52 ho1 hno1 C hK hW (lv_sub hl [4] rfl) hq
      · have hq := hq.2 c10
        refine lv_iload hx hb dX8_cutOne_46 (lv_at hl 0 rfl) ?_
        refine lv_goto (tgt := 52) hx hb dX8_cutOne_48 (by decide) ?_
        exact k_X8_cutOne_52 ho1 hno1 C hK hW (lv_sub hl [4] rfl) hq
    · have hq := hq.2 c7
      refine lv_aload_n hx hb dX8_cutOne_29 rfl (lv_at hl 1 rfl) ?_
      refine lv_aload_n hx hb dX8_cutOne_30 rfl (lv_at hl 2 rfl) ?_
      refine lv_iload_n hx hb dX8_cutOne_31 rfl (lv_at hl 3 rfl) ?_
      refine lv_iload_n hx hb dX8_cutOne_32 rfl (lv_at hl 4 rfl) ?_
      refine k_ci hW (va_runV (As := [.ref (G.2.2 o1), .int x2, .int x3]) (rest := []) (k_fix C) (c_X8_cutInt l G ho1 hno1 h x2 x3 _ hq) (cwV 3 C.2.2.2.2.2.1 (gU_V mw390 mw391 mw392 mw51 mw393) rfl rfl rfl (by decide +kernel) ⟨Nat.le_of_ble_eq_true rfl, Nat.le_of_ble_eq_true rfl⟩) (k_preV hK hW (shC_lt (rfl : shC 3 = 8) (by decide)) (ceC_8 (rfl : shC 3 = 8)) (q := (RX8, TX8, 5)) rfl) rfl rfl hl.1 rfl (lv_room (Nat.le_of_ble_eq_true rfl)) dX8_cutOne_33 ⟨Nat.le_refl 0, Nat.le_refl 0⟩) (fun r12 h11 H locs hq hW => ?_)
      exact k_iret rfl C hW dX8_cutOne_36 hq
  · have hq := hq.2 c4
    refine lv_aload_n hx hb dX8_cutOne_13 rfl (lv_at hl 1 rfl) ?_
    refine lv_aload_n hx hb dX8_cutOne_14 rfl (lv_at hl 2 rfl) ?_
    refine lv_iload_n hx hb dX8_cutOne_15 rfl (lv_at hl 3 rfl) ?_
    refine lv_iload_n hx hb dX8_cutOne_16 rfl (lv_at hl 4 rfl) ?_
    refine k_ci hW (va_runV (As := [.ref (G.2.2 o1), .int x2, .int x3]) (rest := []) (k_fix C) (c_X8_cutName l G ho1 hno1 h x2 x3 _ hq) (cwV 3 C.2.2.2.2.2.1 (gU_V mw375 mw376 mw377 mw51 mw378) rfl rfl rfl (by decide +kernel) ⟨Nat.le_of_ble_eq_true rfl, Nat.le_of_ble_eq_true rfl⟩) (k_preV hK hW (shC_lt (rfl : shC 3 = 8) (by decide)) (ceC_8 (rfl : shC 3 = 8)) (q := (RX8, TX8, 5)) rfl) rfl rfl hl.1 rfl (lv_room (Nat.le_of_ble_eq_true rfl)) dX8_cutOne_17 ⟨Nat.le_refl 0, Nat.le_refl 0⟩) (fun r14 h13 H locs hq hW => ?_)
    exact k_iret rfl C hW dX8_cutOne_20 hq
theorem c_X8_cutOne (l : Launch) (G : wG) {o1 : Nat} (ho1 : shC o1 = 13) {no1 : Nat} (hno1 : lnC o1 = no1) (h : hp) (x2 : Int32) (x3 : Int32) (Q : Int32 → hp → Prop) (hq : w_X8_cutOne o1 no1 h x2 x3 Q) : ctI l SC G yX8_cutOne wUX8_cutOne rmX8_cutOne h [.ref (G.2.2 3), .ref (G.2.2 o1), .int x2, .int x3] Q := by
  refine k_start (cc := cX8_cutOne) (maxL := 5) (rt := (some .int)) (own := RX8) (by decide +kernel) rfl rfl (Nat.le_of_ble_eq_true rfl) ?_
  intro p e s m below meth c ls C hK hW hl
  exact k_X8_cutOne_0 ho1 hno1 C hK hW hl hq
theorem k_X8_cut_61 {o1 : Nat} (ho1 : shC o1 = 13) {no1 : Nat} (hno1 : lnC o1 = no1) {Q : hp → Prop} {x2 : Int32} {h : hp} (C : kC p s m args meth c cX8_cut 6 none RX8 wUX8_cut) (hK : kK G s) {H : Heap} {locs : List Loc} {ls : Array Slot} (hW : kW SC G h (aS SC G) s H locs) (hl : lv_has ls 6 [(0, .ref (G.2.2 3)), (2, .int x2)]) (hq : w_X8_cut_61 o1 no1 Q x2 h) : W p l e rmX8_cut s m args below meth c H locs 0 0 (MQ below (va_Qv Q (kB SC G) (aS SC G)) args s 0 0 (aS SC G)) (F0 m 61 ls []) := by
  have hx := C.1
  have hb := C.2.1
  unfold w_X8_cut_61 at hq
  refine lv_aload_n hx hb dX8_cut_61 rfl (lv_at hl 0 rfl) ?_
  refine gt8_0 C hK hW (rfl : shC 3 = 8) (List.mem_cons_of_mem _ mw130) (fun _ h9 => List.mem_cons_of_mem _ (inU_wsX80 _ h9)) dX8_cut_62 ?_
  refine lv_aload_n hx hb dX8_cut_65 rfl (lv_at hl 0 rfl) ?_
  refine gt8_4 C hK hW (rfl : shC 3 = 8) (List.mem_cons_of_mem _ mw134) (fun _ h9 => List.mem_cons_of_mem _ (inU_wsX80 _ h9)) dX8_cut_66 ?_
  refine lv_iconst (v := 0) hx hb dX8_cut_69 (by decide) ?_
  refine k_iast okC C hK hW (shC_lt (rfl : shC 4 = 14) (by decide)) (fun g9 => ceC_14 (rfl : shC 4 = 14) (rfl : lnC 4 = 402)) hq.1 dX8_cut_70 (fun H locs hW => ?_)
  have hq := hq.2
  obtain ⟨h14, eh14⟩ : ∃ z : hp, z = sI h 4 (ix (gI h 3 4)) 0 := ⟨_, rfl⟩
  rw [← eh14] at hW
  have hq := hq h14 eh14
  refine lv_aload_n hx hb dX8_cut_71 rfl (lv_at hl 0 rfl) ?_
  refine gt8_1 C hK hW (rfl : shC 3 = 8) (List.mem_cons_of_mem _ mw131) (fun _ h9 => List.mem_cons_of_mem _ (inU_wsX80 _ h9)) dX8_cut_72 ?_
  refine lv_aload_n hx hb dX8_cut_75 rfl (lv_at hl 0 rfl) ?_
  refine gt8_4 C hK hW (rfl : shC 3 = 8) (List.mem_cons_of_mem _ mw134) (fun _ h9 => List.mem_cons_of_mem _ (inU_wsX80 _ h9)) dX8_cut_76 ?_
  refine lv_iload_n hx hb dX8_cut_79 rfl (lv_at hl 1 rfl) ?_
  refine k_iast okC C hK hW (shC_lt (rfl : shC 5 = 14) (by decide)) (fun g9 => ceC_14 (rfl : shC 5 = 14) (rfl : lnC 5 = 402)) hq.1 dX8_cut_80 (fun H locs hW => ?_)
  have hq := hq.2
  obtain ⟨h15, eh15⟩ : ∃ z : hp, z = sI h14 5 (ix (gI h14 3 4)) x2 := ⟨_, rfl⟩
  rw [← eh15] at hW
  have hq := hq h15 eh15
  exact k_vret rfl C hW dX8_cut_81 hq
theorem k_X8_cut_b10 {o1 : Nat} (ho1 : shC o1 = 13) {no1 : Nat} (hno1 : lnC o1 = no1) {Q : hp → Prop} {X10 : Int32 × Int32 × hp → Prop} {x2 : Int32} (C : kC p s m args meth c cX8_cut 6 none RX8 wUX8_cut) (hK : kK G s) (hX10 : ∀ (x3 : Int32) (x4 : Int32) (h : hp) (H : Heap) (locs : List Loc) (ls : Array Slot), kW SC G h (aS SC G) s H locs → lv_has ls 6 [(0, .ref (G.2.2 3)), (1, .ref (G.2.2 o1)), (2, .int x2), (3, .int x3), (4, .int x4)] → X10 (x3, x4, h) → W p l e rmX8_cut s m args below meth c H locs 0 0 (MQ below (va_Qv Q (kB SC G) (aS SC G)) args s 0 0 (aS SC G)) (F0 m 10 ls [])) {x3 : Int32} {x4 : Int32} {h : hp} {H : Heap} {locs : List Loc} {ls : Array Slot} (hW : kW SC G h (aS SC G) s H locs) (hl : lv_has ls 6 [(0, .ref (G.2.2 3)), (1, .ref (G.2.2 o1)), (2, .int x2), (3, .int x3), (4, .int x4)]) (hq : w_X8_cut_b10 o1 no1 Q x2 X10 x3 x4 h) : W p l e rmX8_cut s m args below meth c H locs 0 0 (MQ below (va_Qv Q (kB SC G) (aS SC G)) args s 0 0 (aS SC G)) (F0 m 10 ls []) := by
  have hx := C.1
  have hb := C.2.1
  unfold w_X8_cut_b10 at hq
  refine lv_iload hx hb dX8_cut_10 (lv_at hl 4 rfl) ?_
  refine lv_iload_n hx hb dX8_cut_12 rfl (lv_at hl 2 rfl) ?_
  refine lv_icmp_ge (tgt := 61) hx hb dX8_cut_13 (by decide) (fun c2 => ?_) (fun c2 => ?_)
  · have hq := hq.1 c2
    exact k_X8_cut_61 ho1 hno1 C hK hW (lv_sub hl [0, 2] rfl) hq
  · have hq := hq.2 c2
    refine lv_aload_n hx hb dX8_cut_16 rfl (lv_at hl 0 rfl) ?_
    refine gt8_4 C hK hW (rfl : shC 3 = 8) (List.mem_cons_of_mem _ mw134) (fun _ h9 => List.mem_cons_of_mem _ (inU_wsX80 _ h9)) dX8_cut_17 ?_
    refine lv_sipush (v := 401) hx hb dX8_cut_20 (by decide) ?_
    refine lv_icmp_ge (tgt := 61) hx hb dX8_cut_23 (by decide) (fun c3 => ?_) (fun c3 => ?_)
    · have hq := hq.1 c3
      exact k_X8_cut_61 ho1 hno1 C hK hW (lv_sub hl [0, 2] rfl) hq
    · have hq := hq.2 c3
      refine lv_aload_n hx hb dX8_cut_26 rfl (lv_at hl 1 rfl) ?_
      refine lv_iload hx hb dX8_cut_27 (lv_at hl 4 rfl) ?_
      refine k_bald C hK hW (shC_lt ho1 (by decide)) (ceC_13 ho1 hno1) hq.1 dX8_cut_29 ?_
      have hq := hq.2
      refine lv_topi (fun x5_4 ex5_4 => ?_)
      have hq := hq x5_4 ex5_4
      refine lv_istore (lv' := [(5, .int x5_4), (0, .ref (G.2.2 3)), (1, .ref (G.2.2 o1)), (2, .int x2), (3, .int x3), (4, .int x4)]) hx hb dX8_cut_30 hl (by decide) rfl (fun ls hl => ?_)
      refine lv_iload hx hb dX8_cut_32 (lv_at hl 5 rfl) ?_
      refine lv_iload_n hx hb dX8_cut_34 rfl (lv_at hl 4 rfl) ?_
      refine lv_icmp_lt (tgt := 55) hx hb dX8_cut_35 (by decide) (fun c5 => ?_) (fun c5 => ?_)
      · have hq := hq.1 c5
        obtain ⟨x4_6, ex4_6⟩ : ∃ y : Int32, y = x4 + 1 := ⟨_, rfl⟩
        have hq := hq x4_6 ex4_6
        refine lv_iinc (v := x4_6) (lv' := [(4, .int x4_6), (5, .int x5_4), (0, .ref (G.2.2 3)), (1, .ref (G.2.2 o1)), (2, .int x2), (3, .int x3)]) hx hb dX8_cut_55 hl (k := 5) rfl (by rw [ex4_6]; rfl) (by decide) rfl (fun ls hl => ?_)
        refine lv_goto (tgt := 10) hx hb dX8_cut_58 (by decide) ?_
        exact hX10 _ _ _ _ _ _ hW (lv_sub hl [2, 3, 4, 5, 0] rfl) hq
      · have hq := hq.2 c5
        refine lv_iload hx hb dX8_cut_38 (lv_at hl 0 rfl) ?_
        refine k_ci hW (va_runS (As := [.int x5_4]) (rest := []) (k_fix C) (c_X8_isBlank l G h x5_4 _ hq) (va_cwS 1 C.2.2.2.2.2.1 (gU_S mw365 mw366 mw51 mw367) rfl rfl rfl (by decide +kernel) ⟨Nat.le_of_ble_eq_true rfl, Nat.le_of_ble_eq_true rfl⟩) (k_preS hK hW) rfl rfl hl.1 rfl (lv_room (Nat.le_of_ble_eq_true rfl)) dX8_cut_40 ⟨Nat.le_refl 0, Nat.le_refl 0⟩) (fun r7 h8 H locs hq hW => ?_)
        rw [hq.1] at hW
        have hq := hq.2
        refine lv_if_ne (tgt := 55) hx hb dX8_cut_43 (by decide) (fun c9 => ?_) (fun c9 => ?_)
        · have hq := hq.1 c9
          obtain ⟨x4_10, ex4_10⟩ : ∃ y : Int32, y = x4 + 1 := ⟨_, rfl⟩
          have hq := hq x4_10 ex4_10
          refine lv_iinc (v := x4_10) (lv' := [(4, .int x4_10), (5, .int x5_4), (0, .ref (G.2.2 3)), (1, .ref (G.2.2 o1)), (2, .int x2), (3, .int x3)]) hx hb dX8_cut_55 hl (k := 5) rfl (by rw [ex4_10]; rfl) (by decide) rfl (fun ls hl => ?_)
          refine lv_goto (tgt := 10) hx hb dX8_cut_58 (by decide) ?_
          exact hX10 _ _ _ _ _ _ hW (lv_sub hl [2, 3, 4, 5, 0] rfl) hq
        · have hq := hq.2 c9
          refine lv_aload_n hx hb dX8_cut_46 rfl (lv_at hl 1 rfl) ?_
          refine lv_aload_n hx hb dX8_cut_47 rfl (lv_at hl 2 rfl) ?_
          refine lv_iload_n hx hb dX8_cut_48 rfl (lv_at hl 3 rfl) ?_
          refine lv_iload hx hb dX8_cut_49 (lv_at hl 5 rfl) ?_
          refine k_ci hW (va_runV (As := [.ref (G.2.2 o1), .int x2, .int x4]) (rest := []) (k_fix C) (c_X8_cutOne l G ho1 hno1 h x2 x4 _ hq) (cwV 3 C.2.2.2.2.2.1 (gU_V mw368 mw369 mw370 mw51 mw371) rfl rfl rfl (by decide +kernel) ⟨Nat.le_of_ble_eq_true rfl, Nat.le_of_ble_eq_true rfl⟩) (k_preV hK hW (shC_lt (rfl : shC 3 = 8) (by decide)) (ceC_8 (rfl : shC 3 = 8)) (q := (RX8, TX8, 5)) rfl) rfl rfl hl.1 rfl (lv_room (Nat.le_of_ble_eq_true rfl)) dX8_cut_51 ⟨Nat.le_refl 0, Nat.le_refl 0⟩) (fun r12 h11 H locs hq hW => ?_)
          refine lv_istore_n (lv' := [(3, .int r12), (5, .int x5_4), (0, .ref (G.2.2 3)), (1, .ref (G.2.2 o1)), (2, .int x2), (4, .int x4)]) hx hb dX8_cut_54 rfl hl (by decide) rfl (fun ls hl => ?_)
          obtain ⟨x4_13, ex4_13⟩ : ∃ y : Int32, y = x4 + 1 := ⟨_, rfl⟩
          have hq := hq x4_13 ex4_13
          refine lv_iinc (v := x4_13) (lv' := [(4, .int x4_13), (3, .int r12), (5, .int x5_4), (0, .ref (G.2.2 3)), (1, .ref (G.2.2 o1)), (2, .int x2)]) hx hb dX8_cut_55 hl (k := 5) rfl (by rw [ex4_13]; rfl) (by decide) rfl (fun ls hl => ?_)
          refine lv_goto (tgt := 10) hx hb dX8_cut_58 (by decide) ?_
          exact hX10 _ _ _ _ _ _ hW (lv_sub hl [3, 4, 5, 1, 0] rfl) hq
theorem k_X8_cut_10 {o1 : Nat} (ho1 : shC o1 = 13) {no1 : Nat} (hno1 : lnC o1 = no1) {Q : hp → Prop} {x2 : Int32} (C : kC p s m args meth c cX8_cut 6 none RX8 wUX8_cut) (hK : kK G s) {x3 : Int32} {x4 : Int32} {h : hp} {H : Heap} {locs : List Loc} {ls : Array Slot} (hW : kW SC G h (aS SC G) s H locs) (hl : lv_has ls 6 [(0, .ref (G.2.2 3)), (1, .ref (G.2.2 o1)), (2, .int x2), (3, .int x3), (4, .int x4)]) (hq : w_X8_cut_10 o1 no1 Q x2 x3 x4 h) : W p l e rmX8_cut s m args below meth c H locs 0 0 (MQ below (va_Qv Q (kB SC G) (aS SC G)) args s 0 0 (aS SC G)) (F0 m 10 ls []) := by
  have key := hq (fun (q : Int32 × Int32 × hp) => ∀ (H : Heap) (locs : List Loc) (ls : Array Slot), kW SC G q.2.2 (aS SC G) s H locs → lv_has ls 6 [(0, .ref (G.2.2 3)), (1, .ref (G.2.2 o1)), (2, .int x2), (3, .int q.1), (4, .int q.2.1)] → W p l e rmX8_cut s m args below meth c H locs 0 0 (MQ below (va_Qv Q (kB SC G) (aS SC G)) args s 0 0 (aS SC G)) (F0 m 10 ls []))
    (fun q hq H locs ls hW hl => k_X8_cut_b10 ho1 hno1 C hK (fun x3 x4 h H locs ls hW hl hI => hI H locs ls hW hl) hW hl hq)
  exact key _ _ _ hW hl
theorem k_X8_cut_0 {o1 : Nat} (ho1 : shC o1 = 13) {no1 : Nat} (hno1 : lnC o1 = no1) {Q : hp → Prop} {x2 : Int32} {h : hp} (C : kC p s m args meth c cX8_cut 6 none RX8 wUX8_cut) (hK : kK G s) {H : Heap} {locs : List Loc} {ls : Array Slot} (hW : kW SC G h (aS SC G) s H locs) (hl : lv_has ls 6 [(0, .ref (G.2.2 3)), (1, .ref (G.2.2 o1)), (2, .int x2)]) (hq : w_X8_cut_0 o1 no1 Q x2 h) : W p l e rmX8_cut s m args below meth c H locs 0 0 (MQ below (va_Qv Q (kB SC G) (aS SC G)) args s 0 0 (aS SC G)) (F0 m 0 ls []) := by
  have hx := C.1
  have hb := C.2.1
  unfold w_X8_cut_0 at hq
  refine lv_aload_n hx hb dX8_cut_0 rfl (lv_at hl 0 rfl) ?_
  refine lv_iconst (v := 0) hx hb dX8_cut_1 (by decide) ?_
  refine pt8_4 C hK hW (rfl : shC 3 = 8) (List.mem_cons_of_mem _ mw134) (fun _ h9 => List.mem_cons_of_mem _ (inU_wsX80 _ h9)) dX8_cut_2 (fun h1 H locs eh1 hW => ?_)
  have hq := hq h1 eh1
  refine lv_iconst (v := 0) hx hb dX8_cut_5 (by decide) ?_
  refine lv_istore_n (lv' := [(3, .int 0), (0, .ref (G.2.2 3)), (1, .ref (G.2.2 o1)), (2, .int x2)]) hx hb dX8_cut_6 rfl hl (by decide) rfl (fun ls hl => ?_)
  refine lv_iconst (v := 0) hx hb dX8_cut_7 (by decide) ?_
  refine lv_istore (lv' := [(4, .int 0), (3, .int 0), (0, .ref (G.2.2 3)), (1, .ref (G.2.2 o1)), (2, .int x2)]) hx hb dX8_cut_8 hl (by decide) rfl (fun ls hl => ?_)
  exact k_X8_cut_10 ho1 hno1 C hK hW (lv_sub hl [2, 3, 4, 1, 0] rfl) hq
theorem c_X8_cut (l : Launch) (G : wG) {o1 : Nat} (ho1 : shC o1 = 13) {no1 : Nat} (hno1 : lnC o1 = no1) (h : hp) (x2 : Int32) (Q : hp → Prop) (hq : w_X8_cut o1 no1 h x2 Q) : ctV l SC G yX8_cut wUX8_cut rmX8_cut h [.ref (G.2.2 3), .ref (G.2.2 o1), .int x2] Q := by
  refine k_start (cc := cX8_cut) (maxL := 6) (rt := none) (own := RX8) (by decide +kernel) rfl rfl (Nat.le_of_ble_eq_true rfl) ?_
  intro p e s m below meth c ls C hK hW hl
  exact k_X8_cut_0 ho1 hno1 C hK hW hl hq
theorem k_X5_kind_0 {Q : Int32 → Prop} {h : hp} (C : kC p s m args meth c cX5_kind 1 (some .int) RX5 wUX5_kind) (hK : kK G s) {H : Heap} {locs : List Loc} {ls : Array Slot} (hW : kW SC G h (aS SC G) s H locs) (hl : lv_has ls 1 [(0, .ref (G.2.2 2))]) (hq : w_X5_kind_0 Q h) : W p l e rmX5_kind s m args below meth c H locs 0 0 (MQ below (va_Qi (fun r9 h9 => h9 = h ∧ Q r9) (kB SC G) (aS SC G)) args s 0 0 (aS SC G)) (F0 m 0 ls []) := by
  have hx := C.1
  have hb := C.2.1
  unfold w_X5_kind_0 at hq
  refine lv_aload_n hx hb dX5_kind_0 rfl (lv_at hl 0 rfl) ?_
  refine gt5_2 C hK hW (rfl : shC 2 = 5) (List.mem_cons_of_mem _ mw45) (fun _ h9 => List.mem_cons_of_mem _ (inU_wsX50 _ h9)) dX5_kind_1 ?_
  refine lv_sipush (v := 400) hx hb dX5_kind_4 (by decide) ?_
  refine lv_icmp_gt (tgt := 25) hx hb dX5_kind_7 (by decide) (fun c1 => ?_) (fun c1 => ?_)
  · have hq := hq.1 c1
    refine lv_iconst (v := 0) hx hb dX5_kind_25 (by decide) ?_
    exact k_iret rfl C hW dX5_kind_26 ⟨rfl, hq⟩
  · have hq := hq.2 c1
    refine lv_aload_n hx hb dX5_kind_10 rfl (lv_at hl 0 rfl) ?_
    refine gt5_5 C hK hW (rfl : shC 2 = 5) (List.mem_cons_of_mem _ mw52) (fun _ h9 => List.mem_cons_of_mem _ (inU_wsX50 _ h9)) dX5_kind_11 ?_
    refine gt8_0 C hK hW (rfl : shC 3 = 8) (List.mem_cons_of_mem _ mw401) (fun _ h9 => List.mem_cons_of_mem _ (inU_wsX80 _ h9)) dX5_kind_14 ?_
    refine lv_aload_n hx hb dX5_kind_17 rfl (lv_at hl 0 rfl) ?_
    refine gt5_2 C hK hW (rfl : shC 2 = 5) (List.mem_cons_of_mem _ mw45) (fun _ h9 => List.mem_cons_of_mem _ (inU_wsX50 _ h9)) dX5_kind_18 ?_
    refine k_iald C hK hW (shC_lt (rfl : shC 4 = 14) (by decide)) (ceC_14 (rfl : shC 4 = 14) (rfl : lnC 4 = 402)) hq.1 dX5_kind_21 ?_
    have hq := hq.2
    refine lv_goto (tgt := 26) hx hb dX5_kind_22 (by decide) ?_
    exact k_iret rfl C hW dX5_kind_26 ⟨rfl, hq⟩
theorem c_X5_kind (l : Launch) (G : wG) (h : hp) (Q : Int32 → Prop) (hq : w_X5_kind h Q) : ctI l SC G yX5_kind wUX5_kind rmX5_kind h [.ref (G.2.2 2)] (fun r9 h9 => h9 = h ∧ Q r9) := by
  refine k_start (cc := cX5_kind) (maxL := 1) (rt := (some .int)) (own := RX5) (by decide +kernel) rfl rfl (Nat.le_of_ble_eq_true rfl) ?_
  intro p e s m below meth c ls C hK hW hl
  exact k_X5_kind_0 C hK hW hl hq
theorem k_X5_stop_0 {Q : Int32 → hp → Prop} {x1 : Int32} {h : hp} (C : kC p s m args meth c cX5_stop 2 (some .boolean) RX5 wUX5_stop) (hK : kK G s) {H : Heap} {locs : List Loc} {ls : Array Slot} (hW : kW SC G h (aS SC G) s H locs) (hl : lv_has ls 2 [(0, .ref (G.2.2 2)), (1, .int x1)]) (hq : w_X5_stop_0 Q x1 h) : W p l e rmX5_stop s m args below meth c H locs 0 0 (MQ below (va_Qi Q (kB SC G) (aS SC G)) args s 0 0 (aS SC G)) (F0 m 0 ls []) := by
  have hx := C.1
  have hb := C.2.1
  unfold w_X5_stop_0 at hq
  refine lv_aload_n hx hb dX5_stop_0 rfl (lv_at hl 0 rfl) ?_
  refine lv_iload_n hx hb dX5_stop_1 rfl (lv_at hl 1 rfl) ?_
  refine pt5_1 C hK hW (rfl : shC 2 = 5) (List.mem_cons_of_mem _ mw44) (fun _ h9 => List.mem_cons_of_mem _ (inU_wsX50 _ h9)) dX5_stop_2 (fun h1 H locs eh1 hW => ?_)
  have hq := hq h1 eh1
  refine lv_aload_n hx hb dX5_stop_5 rfl (lv_at hl 0 rfl) ?_
  refine lv_aload_n hx hb dX5_stop_6 rfl (lv_at hl 0 rfl) ?_
  refine gt5_5 C hK hW (rfl : shC 2 = 5) (List.mem_cons_of_mem _ mw52) (fun _ h9 => List.mem_cons_of_mem _ (inU_wsX50 _ h9)) dX5_stop_7 ?_
  refine gt8_1 C hK hW (rfl : shC 3 = 8) (List.mem_cons_of_mem _ mw410) (fun _ h9 => List.mem_cons_of_mem _ (inU_wsX80 _ h9)) dX5_stop_10 ?_
  refine lv_aload_n hx hb dX5_stop_13 rfl (lv_at hl 0 rfl) ?_
  refine gt5_2 C hK hW (rfl : shC 2 = 5) (List.mem_cons_of_mem _ mw45) (fun _ h9 => List.mem_cons_of_mem _ (inU_wsX50 _ h9)) dX5_stop_14 ?_
  refine k_iald C hK hW (shC_lt (rfl : shC 5 = 14) (by decide)) (ceC_14 (rfl : shC 5 = 14) (rfl : lnC 5 = 402)) hq.1 dX5_stop_17 ?_
  have hq := hq.2
  refine pt5_0 C hK hW (rfl : shC 2 = 5) (List.mem_cons_of_mem _ mw43) (fun _ h9 => List.mem_cons_of_mem _ (inU_wsX50 _ h9)) dX5_stop_18 (fun h2 H locs eh2 hW => ?_)
  have hq := hq h2 eh2
  refine lv_iconst (v := 0) hx hb dX5_stop_21 (by decide) ?_
  exact k_zret rfl isZ_0.1 C hW dX5_stop_22 hq
theorem c_X5_stop (l : Launch) (G : wG) (h : hp) (x1 : Int32) (Q : Int32 → hp → Prop) (hq : w_X5_stop h x1 Q) : ctI l SC G yX5_stop wUX5_stop rmX5_stop h [.ref (G.2.2 2), .int x1] Q := by
  refine k_start (cc := cX5_stop) (maxL := 2) (rt := (some .boolean)) (own := RX5) (by decide +kernel) rfl rfl (Nat.le_of_ble_eq_true rfl) ?_
  intro p e s m below meth c ls C hK hW hl
  exact k_X5_stop_0 C hK hW hl hq
end LINKS
