section LINKS
variable {p : Program} {l : Launch} {e : Env} {s : State} {m : MethodId} {args : Array Value} {below : List Frame} {meth : Method} {c : Code} {G : wG}
theorem k_X11_feed_0 {Q : Int32 → hp → Prop} {x1 : Int32} {x2 : Int32} {x3 : Int32} {x4 : Int32} {x5 : Int32} {h : hp} (C : kC p s m args meth c cX11_feed 6 (some .int) RX11 wUX11_feed) (hK : kK G s) {H : Heap} {locs : List Loc} {ls : Array Slot} (hW : kW SC G h (aS SC G) s H locs) (hl : lv_has ls 6 [(0, .ref (G.2.2 0)), (1, .int x1), (2, .int x2), (3, .int x3), (4, .int x4), (5, .int x5)]) (hq : w_X11_feed_0 Q x1 x2 x3 x4 x5 h) : W p l e rmX11_feed s m args below meth c H locs 0 0 (MQ below (va_Qi Q (kB SC G) (aS SC G)) args s 0 0 (aS SC G)) (F0 m 0 ls []) := by
  have hx := C.1
  have hb := C.2.1
  unfold w_X11_feed_0 at hq
  refine lv_aload_n hx hb dX11_feed_0 rfl (lv_at hl 0 rfl) ?_
  refine gt11_1 C hK hW (rfl : shC 0 = 11) (List.mem_cons_of_mem _ mw15) (fun _ h9 => List.mem_cons_of_mem _ (inU_wsX110 _ h9)) dX11_feed_1 ?_
  refine lv_sipush (v := 1980) hx hb dX11_feed_4 (by decide) ?_
  refine lv_icmp_le (tgt := 12) hx hb dX11_feed_7 (by decide) (fun c1 => ?_) (fun c1 => ?_)
  · have hq := hq.1 c1
    refine lv_aload_n hx hb dX11_feed_12 rfl (lv_at hl 0 rfl) ?_
    refine lv_iload_n hx hb dX11_feed_13 rfl (lv_at hl 1 rfl) ?_
    refine k_cv hW (va_runV (As := [.int x1]) (rest := []) (k_fix C) (c_X11_putFour l G h x1 _ hq) (cwV 1 C.2.2.2.2.2.1 (gU_V mw330 mw331 mw332 mw2 mw333) rfl rfl rfl (by decide +kernel) ⟨Nat.le_of_ble_eq_true rfl, Nat.le_of_ble_eq_true rfl⟩) (k_preV hK hW (shC_lt (rfl : shC 0 = 11) (by decide)) (ceC_11 (rfl : shC 0 = 11)) (q := (RX11, TX11, 11)) rfl) rfl rfl hl.1 rfl (lv_room (Nat.le_of_ble_eq_true rfl)) dX11_feed_14 ⟨Nat.le_refl 0, Nat.le_refl 0⟩) (fun h2 H locs hq hW => ?_)
    refine lv_aload_n hx hb dX11_feed_17 rfl (lv_at hl 0 rfl) ?_
    refine lv_iload_n hx hb dX11_feed_18 rfl (lv_at hl 2 rfl) ?_
    refine k_cv hW (va_runV (As := [.int x2]) (rest := []) (k_fix C) (c_X11_putFour l G h2 x2 _ hq) (cwV 1 C.2.2.2.2.2.1 (gU_V mw330 mw331 mw332 mw2 mw333) rfl rfl rfl (by decide +kernel) ⟨Nat.le_of_ble_eq_true rfl, Nat.le_of_ble_eq_true rfl⟩) (k_preV hK hW (shC_lt (rfl : shC 0 = 11) (by decide)) (ceC_11 (rfl : shC 0 = 11)) (q := (RX11, TX11, 11)) rfl) rfl rfl hl.1 rfl (lv_room (Nat.le_of_ble_eq_true rfl)) dX11_feed_19 ⟨Nat.le_refl 0, Nat.le_refl 0⟩) (fun h3 H locs hq hW => ?_)
    refine lv_aload_n hx hb dX11_feed_22 rfl (lv_at hl 0 rfl) ?_
    refine lv_iload_n hx hb dX11_feed_23 rfl (lv_at hl 3 rfl) ?_
    refine k_cv hW (va_runV (As := [.int x3]) (rest := []) (k_fix C) (c_X11_putFour l G h3 x3 _ hq) (cwV 1 C.2.2.2.2.2.1 (gU_V mw330 mw331 mw332 mw2 mw333) rfl rfl rfl (by decide +kernel) ⟨Nat.le_of_ble_eq_true rfl, Nat.le_of_ble_eq_true rfl⟩) (k_preV hK hW (shC_lt (rfl : shC 0 = 11) (by decide)) (ceC_11 (rfl : shC 0 = 11)) (q := (RX11, TX11, 11)) rfl) rfl rfl hl.1 rfl (lv_room (Nat.le_of_ble_eq_true rfl)) dX11_feed_24 ⟨Nat.le_refl 0, Nat.le_refl 0⟩) (fun h4 H locs hq hW => ?_)
    refine lv_aload_n hx hb dX11_feed_27 rfl (lv_at hl 0 rfl) ?_
    refine lv_iload hx hb dX11_feed_28 (lv_at hl 4 rfl) ?_
    refine k_cv hW (va_runV (As := [.int x4]) (rest := []) (k_fix C) (c_X11_putFour l G h4 x4 _ hq) (cwV 1 C.2.2.2.2.2.1 (gU_V mw330 mw331 mw332 mw2 mw333) rfl rfl rfl (by decide +kernel) ⟨Nat.le_of_ble_eq_true rfl, Nat.le_of_ble_eq_true rfl⟩) (k_preV hK hW (shC_lt (rfl : shC 0 = 11) (by decide)) (ceC_11 (rfl : shC 0 = 11)) (q := (RX11, TX11, 11)) rfl) rfl rfl hl.1 rfl (lv_room (Nat.le_of_ble_eq_true rfl)) dX11_feed_30 ⟨Nat.le_refl 0, Nat.le_refl 0⟩) (fun h5 H locs hq hW => ?_)
    refine lv_aload_n hx hb dX11_feed_33 rfl (lv_at hl 0 rfl) ?_
    refine lv_iload hx hb dX11_feed_34 (lv_at hl 5 rfl) ?_
    refine k_cv hW (va_runV (As := [.int x5]) (rest := []) (k_fix C) (c_X11_putFour l G h5 x5 _ hq) (cwV 1 C.2.2.2.2.2.1 (gU_V mw330 mw331 mw332 mw2 mw333) rfl rfl rfl (by decide +kernel) ⟨Nat.le_of_ble_eq_true rfl, Nat.le_of_ble_eq_true rfl⟩) (k_preV hK hW (shC_lt (rfl : shC 0 = 11) (by decide)) (ceC_11 (rfl : shC 0 = 11)) (q := (RX11, TX11, 11)) rfl) rfl rfl hl.1 rfl (lv_room (Nat.le_of_ble_eq_true rfl)) dX11_feed_36 ⟨Nat.le_refl 0, Nat.le_refl 0⟩) (fun h6 H locs hq hW => ?_)
    refine lv_aload_n hx hb dX11_feed_39 rfl (lv_at hl 0 rfl) ?_
    refine gt11_1 C hK hW (rfl : shC 0 = 11) (List.mem_cons_of_mem _ mw15) (fun _ h9 => List.mem_cons_of_mem _ (inU_wsX110 _ h9)) dX11_feed_40 ?_
    exact k_iret rfl C hW dX11_feed_43 hq
  · have hq := hq.2 c1
    refine lv_iconst (v := (-1)) hx hb dX11_feed_10 (by decide) ?_
    exact k_iret rfl C hW dX11_feed_11 hq
theorem c_X11_feed (l : Launch) (G : wG) (h : hp) (x1 : Int32) (x2 : Int32) (x3 : Int32) (x4 : Int32) (x5 : Int32) (Q : Int32 → hp → Prop) (hq : w_X11_feed h x1 x2 x3 x4 x5 Q) : ctI l SC G yX11_feed wUX11_feed rmX11_feed h [.ref (G.2.2 0), .int x1, .int x2, .int x3, .int x4, .int x5] Q := by
  refine k_start (cc := cX11_feed) (maxL := 6) (rt := (some .int)) (own := RX11) (by decide +kernel) rfl rfl (Nat.le_of_ble_eq_true rfl) ?_
  intro p e s m below meth c ls C hK hW hl
  exact k_X11_feed_0 C hK hW hl hq
theorem k_X11_back_0 {Q : Int32 → hp → Prop} {x1 : Int32} {h : hp} (C : kC p s m args meth c cX11_back 2 (some .int) RX11 wUX11_back) (hK : kK G s) {H : Heap} {locs : List Loc} {ls : Array Slot} (hW : kW SC G h (aS SC G) s H locs) (hl : lv_has ls 2 [(0, .ref (G.2.2 0)), (1, .int x1)]) (hq : w_X11_back_0 Q x1 h) : W p l e rmX11_back s m args below meth c H locs 0 0 (MQ below (va_Qi Q (kB SC G) (aS SC G)) args s 0 0 (aS SC G)) (F0 m 0 ls []) := by
  have hx := C.1
  have hb := C.2.1
  unfold w_X11_back_0 at hq
  refine lv_iload_n hx hb dX11_back_0 rfl (lv_at hl 1 rfl) ?_
  refine lv_if_lt (tgt := 12) hx hb dX11_back_1 (by decide) (fun c1 => ?_) (fun c1 => ?_)
  · have hq := hq.1 c1
    refine lv_iconst (v := (-1)) hx hb dX11_back_12 (by decide) ?_
    exact k_iret rfl C hW dX11_back_13 hq
  · have hq := hq.2 c1
    refine lv_iload_n hx hb dX11_back_4 rfl (lv_at hl 1 rfl) ?_
    refine lv_aload_n hx hb dX11_back_5 rfl (lv_at hl 0 rfl) ?_
    refine gt11_1 C hK hW (rfl : shC 0 = 11) (List.mem_cons_of_mem _ mw15) (fun _ h9 => List.mem_cons_of_mem _ (inU_wsX110 _ h9)) dX11_back_6 ?_
    refine lv_icmp_le (tgt := 14) hx hb dX11_back_9 (by decide) (fun c2 => ?_) (fun c2 => ?_)
    · have hq := hq.1 c2
      refine lv_aload_n hx hb dX11_back_14 rfl (lv_at hl 0 rfl) ?_
      refine lv_dup hx hb dX11_back_15 rfl ?_
      refine gt11_1 C hK hW (rfl : shC 0 = 11) (List.mem_cons_of_mem _ mw15) (fun _ h9 => List.mem_cons_of_mem _ (inU_wsX110 _ h9)) dX11_back_16 ?_
      refine lv_iload_n hx hb dX11_back_19 rfl (lv_at hl 1 rfl) ?_
      refine lv_isub hx hb dX11_back_20 ?_
      refine pt11_1 C hK hW (rfl : shC 0 = 11) (List.mem_cons_of_mem _ mw15) (fun _ h9 => List.mem_cons_of_mem _ (inU_wsX110 _ h9)) dX11_back_21 (fun h3 H locs eh3 hW => ?_)
      have hq := hq h3 eh3
      refine lv_aload_n hx hb dX11_back_24 rfl (lv_at hl 0 rfl) ?_
      refine gt11_1 C hK hW (rfl : shC 0 = 11) (List.mem_cons_of_mem _ mw15) (fun _ h9 => List.mem_cons_of_mem _ (inU_wsX110 _ h9)) dX11_back_25 ?_
      exact k_iret rfl C hW dX11_back_28 hq
    · have hq := hq.2 c2
      refine lv_iconst (v := (-1)) hx hb dX11_back_12 (by decide) ?_
      exact k_iret rfl C hW dX11_back_13 hq
theorem c_X11_back (l : Launch) (G : wG) (h : hp) (x1 : Int32) (Q : Int32 → hp → Prop) (hq : w_X11_back h x1 Q) : ctI l SC G yX11_back wUX11_back rmX11_back h [.ref (G.2.2 0), .int x1] Q := by
  refine k_start (cc := cX11_back) (maxL := 2) (rt := (some .int)) (own := RX11) (by decide +kernel) rfl rfl (Nat.le_of_ble_eq_true rfl) ?_
  intro p e s m below meth c ls C hK hW hl
  exact k_X11_back_0 C hK hW hl hq
theorem k_X11_read_37 {Q : Int32 → hp → Prop} {x1 : Int32} {h : hp} {s0 : Int32} (C : kC p s m args meth c cX11_read 2 (some .int) RX11 wUX11_read) (hK : kK G s) {H : Heap} {locs : List Loc} {ls : Array Slot} (hW : kW SC G h (aS SC G) s H locs) (hl : lv_has ls 2 [(0, .ref (G.2.2 0)), (1, .int x1)]) (hq : w_X11_read_37 Q x1 h s0) : W p l e rmX11_read s m args below meth c H locs 0 0 (MQ below (va_Qi Q (kB SC G) (aS SC G)) args s 0 0 (aS SC G)) (F0 m 37 ls [.int s0, .ref (G.2.2 0)]) := by
  have hx := C.1
  have hb := C.2.1
  unfold w_X11_read_37 at hq
  refine pt11_2 C hK hW (rfl : shC 0 = 11) (List.mem_cons_of_mem _ mw16) (fun _ h9 => List.mem_cons_of_mem _ (inU_wsX110 _ h9)) dX11_read_37 (fun h5 H locs eh5 hW => ?_)
  have hq := hq h5 eh5
  refine lv_iload_n hx hb dX11_read_40 rfl (lv_at hl 1 rfl) ?_
  refine lv_if_ne (tgt := 63) hx hb dX11_read_41 (by decide) (fun c6 => ?_) (fun c6 => ?_)
  · have hq := hq.1 c6
    refine lv_iload_n hx hb dX11_read_63 rfl (lv_at hl 1 rfl) ?_
    exact k_iret rfl C hW dX11_read_64 hq
  · have hq := hq.2 c6
    refine lv_aload_n hx hb dX11_read_44 rfl (lv_at hl 0 rfl) ?_
    refine lv_aload_n hx hb dX11_read_45 rfl (lv_at hl 0 rfl) ?_
    refine gt11_3 C hK hW (rfl : shC 0 = 11) (List.mem_cons_of_mem _ mw20) (fun _ h9 => List.mem_cons_of_mem _ (inU_wsX110 _ h9)) dX11_read_46 ?_
    refine lv_aload_n hx hb dX11_read_49 rfl (lv_at hl 0 rfl) ?_
    refine gt11_4 C hK hW (rfl : shC 0 = 11) (List.mem_cons_of_mem _ mw24) (fun _ h9 => List.mem_cons_of_mem _ (inU_wsX110 _ h9)) dX11_read_50 ?_
    have hr7 := hq.1
    have hq := hq.2
    refine k_cr hW (va_runV (As := [.ref (G.2.2 (gR h5 0))]) (rest := [.ref (G.2.2 0)]) (k_fix C) (c_X5_exchange l G hr7 h5 _ hq) (cwV 1 C.2.2.2.2.2.1 (gU_V mw597 mw598 mw599 mw19 mw600) rfl rfl rfl (by decide +kernel) ⟨Nat.le_of_ble_eq_true rfl, Nat.le_of_ble_eq_true rfl⟩) (k_preV hK hW (shC_lt (rfl : shC 2 = 5) (by decide)) (ceC_5 (rfl : shC 2 = 5)) (q := (RX5, TX5, 7)) rfl) rfl rfl hl.1 rfl (lv_room (Nat.le_of_ble_eq_true rfl)) dX11_read_53 ⟨Nat.le_refl 0, Nat.le_refl 0⟩) (fun r9 h8 H locs hq hW => ?_)
    have hor9 := hq.1
    have hq := hq.2
    refine pt11_4 C hK hW (List.mem_cons_of_mem _ mw24) (fun _ h9 => List.mem_cons_of_mem _ (inU_wsX110 _ h9)) dX11_read_56 (fun h10 H locs eh10 hW => ?_)
    have hq := hq h10 eh10
    refine lv_aload_n hx hb dX11_read_59 rfl (lv_at hl 0 rfl) ?_
    refine k_cv hW (va_runV (As := []) (rest := []) (k_fix C) (c_X11_begin l G h10 _ hq) (cwV 0 C.2.2.2.2.2.1 (gU_V mw244 mw245 mw246 mw2 mw247) rfl rfl rfl (by decide +kernel) ⟨Nat.le_of_ble_eq_true rfl, Nat.le_of_ble_eq_true rfl⟩) (k_preV hK hW (shC_lt (rfl : shC 0 = 11) (by decide)) (ceC_11 (rfl : shC 0 = 11)) (q := (RX11, TX11, 11)) rfl) rfl rfl hl.1 rfl (lv_room (Nat.le_of_ble_eq_true rfl)) dX11_read_60 ⟨Nat.le_refl 0, Nat.le_refl 0⟩) (fun h11 H locs hq hW => ?_)
    refine lv_iload_n hx hb dX11_read_63 rfl (lv_at hl 1 rfl) ?_
    exact k_iret rfl C hW dX11_read_64 hq
theorem k_X11_read_0 {Q : Int32 → hp → Prop} {h : hp} (C : kC p s m args meth c cX11_read 2 (some .int) RX11 wUX11_read) (hK : kK G s) {H : Heap} {locs : List Loc} {ls : Array Slot} (hW : kW SC G h (aS SC G) s H locs) (hl : lv_has ls 2 [(0, .ref (G.2.2 0))]) (hq : w_X11_read_0 Q h) : W p l e rmX11_read s m args below meth c H locs 0 0 (MQ below (va_Qi Q (kB SC G) (aS SC G)) args s 0 0 (aS SC G)) (F0 m 0 ls []) := by
  have hx := C.1
  have hb := C.2.1
  unfold w_X11_read_0 at hq
  refine lv_aload_n hx hb dX11_read_0 rfl (lv_at hl 0 rfl) ?_
  refine gt11_3 C hK hW (rfl : shC 0 = 11) (List.mem_cons_of_mem _ mw20) (fun _ h9 => List.mem_cons_of_mem _ (inU_wsX110 _ h9)) dX11_read_1 ?_
  refine lv_aload_n hx hb dX11_read_4 rfl (lv_at hl 0 rfl) ?_
  refine gt11_0 C hK hW (rfl : shC 0 = 11) (List.mem_cons_of_mem _ mw14) (fun _ h9 => List.mem_cons_of_mem _ (inU_wsX110 _ h9)) dX11_read_5 ?_
  refine lv_aload_n hx hb dX11_read_8 rfl (lv_at hl 0 rfl) ?_
  refine gt11_1 C hK hW (rfl : shC 0 = 11) (List.mem_cons_of_mem _ mw15) (fun _ h9 => List.mem_cons_of_mem _ (inU_wsX110 _ h9)) dX11_read_9 ?_
  refine k_ci hW (va_runV (As := [.ref (G.2.2 1), .int (gI h 0 1)]) (rest := []) (k_fix C) (c_X5_readDraft l G (rfl : shC 1 = 13) (rfl : lnC 1 = 2000) h (gI h 0 1) _ hq) (cwV 2 C.2.2.2.2.2.1 (gU_V mw356 mw357 mw358 mw19 mw359) rfl rfl rfl (by decide +kernel) ⟨Nat.le_of_ble_eq_true rfl, Nat.le_of_ble_eq_true rfl⟩) (k_preV hK hW (shC_lt (rfl : shC 2 = 5) (by decide)) (ceC_5 (rfl : shC 2 = 5)) (q := (RX5, TX5, 7)) rfl) rfl rfl hl.1 rfl (lv_room (Nat.le_of_ble_eq_true rfl)) dX11_read_12 ⟨Nat.le_refl 0, Nat.le_refl 0⟩) (fun r2 h1 H locs hq hW => ?_)
  refine lv_istore_n (lv' := [(1, .int r2), (0, .ref (G.2.2 0))]) hx hb dX11_read_15 rfl hl (by decide) rfl (fun ls hl => ?_)
  refine lv_aload_n hx hb dX11_read_16 rfl (lv_at hl 1 rfl) ?_
  refine lv_iconst (v := 0) hx hb dX11_read_17 (by decide) ?_
  refine pt11_1 C hK hW (rfl : shC 0 = 11) (List.mem_cons_of_mem _ mw15) (fun _ h9 => List.mem_cons_of_mem _ (inU_wsX110 _ h9)) dX11_read_18 (fun h3 H locs eh3 hW => ?_)
  have hq := hq h3 eh3
  refine lv_aload_n hx hb dX11_read_21 rfl (lv_at hl 1 rfl) ?_
  refine lv_iload_n hx hb dX11_read_22 rfl (lv_at hl 0 rfl) ?_
  refine lv_if_ne (tgt := 30) hx hb dX11_read_23 (by decide) (fun c4 => ?_) (fun c4 => ?_)
  · have hq := hq.1 c4
    refine lv_aload_n hx hb dX11_read_30 rfl (lv_at hl 1 rfl) ?_
    refine gt11_3 C hK hW (rfl : shC 0 = 11) (List.mem_cons_of_mem _ mw20) (fun _ h9 => List.mem_cons_of_mem _ (inU_wsX110 _ h9)) dX11_read_31 ?_
    refine gt5_0 C hK hW (rfl : shC 2 = 5) (List.mem_cons_of_mem _ mw355) (fun _ h9 => List.mem_cons_of_mem _ (inU_wsX50 _ h9)) dX11_read_34 ?_
    exact k_X11_read_37 C hK hW (lv_sub hl [1, 0] rfl) hq
  · have hq := hq.2 c4
    refine lv_iconst (v := (-1)) hx hb dX11_read_26 (by decide) ?_
    refine lv_goto (tgt := 37) hx hb dX11_read_27 (by decide) ?_
    exact k_X11_read_37 C hK hW (lv_sub hl [1, 0] rfl) hq
theorem c_X11_read (l : Launch) (G : wG) (h : hp) (Q : Int32 → hp → Prop) (hq : w_X11_read h Q) : ctI l SC G yX11_read wUX11_read rmX11_read h [.ref (G.2.2 0)] Q := by
  refine k_start (cc := cX11_read) (maxL := 2) (rt := (some .int)) (own := RX11) (by decide +kernel) rfl rfl (Nat.le_of_ble_eq_true rfl) ?_
  intro p e s m below meth c ls C hK hW hl
  exact k_X11_read_0 C hK hW hl hq
theorem k_X11_place_0 {Q : Int32 → Prop} {h : hp} (C : kC p s m args meth c cX11_place 1 (some .int) RX11 wUX11_place) (hK : kK G s) {H : Heap} {locs : List Loc} {ls : Array Slot} (hW : kW SC G h (aS SC G) s H locs) (hl : lv_has ls 1 [(0, .ref (G.2.2 0))]) (hq : w_X11_place_0 Q h) : W p l e rmX11_place s m args below meth c H locs 0 0 (MQ below (va_Qi (fun r9 h9 => h9 = h ∧ Q r9) (kB SC G) (aS SC G)) args s 0 0 (aS SC G)) (F0 m 0 ls []) := by
  have hx := C.1
  have hb := C.2.1
  unfold w_X11_place_0 at hq
  refine lv_aload_n hx hb dX11_place_0 rfl (lv_at hl 0 rfl) ?_
  refine gt11_2 C hK hW (rfl : shC 0 = 11) (List.mem_cons_of_mem _ mw16) (fun _ h9 => List.mem_cons_of_mem _ (inU_wsX110 _ h9)) dX11_place_1 ?_
  exact k_iret rfl C hW dX11_place_4 ⟨rfl, hq⟩
theorem c_X11_place (l : Launch) (G : wG) (h : hp) (Q : Int32 → Prop) (hq : w_X11_place h Q) : ctI l SC G yX11_place wUX11_place rmX11_place h [.ref (G.2.2 0)] (fun r9 h9 => h9 = h ∧ Q r9) := by
  refine k_start (cc := cX11_place) (maxL := 1) (rt := (some .int)) (own := RX11) (by decide +kernel) rfl rfl (Nat.le_of_ble_eq_true rfl) ?_
  intro p e s m below meth c ls C hK hW hl
  exact k_X11_place_0 C hK hW hl hq
theorem k_X11_isRow_0 {Q : Int32 → Prop} {x1 : Int32} {h : hp} (C : kC p s m args meth c cX11_isRow 2 (some .boolean) RX11 wUX11_isRow) (hK : kK G s) {H : Heap} {locs : List Loc} {ls : Array Slot} (hW : kW SC G h (aS SC G) s H locs) (hl : lv_has ls 2 [(0, .ref (G.2.2 0)), (1, .int x1)]) (hq : w_X11_isRow_0 Q x1 h) : W p l e rmX11_isRow s m args below meth c H locs 0 0 (MQ below (va_Qi (fun r9 h9 => h9 = h ∧ Q r9) (kB SC G) (aS SC G)) args s 0 0 (aS SC G)) (F0 m 0 ls []) := by
  have hx := C.1
  have hb := C.2.1
  unfold w_X11_isRow_0 at hq
  refine lv_iload_n hx hb dX11_isRow_0 rfl (lv_at hl 1 rfl) ?_
  refine lv_if_lt (tgt := 19) hx hb dX11_isRow_1 (by decide) (fun c1 => ?_) (fun c1 => ?_)
  · have hq := hq.1 c1
    refine lv_iconst (v := 0) hx hb dX11_isRow_19 (by decide) ?_
    exact k_zret rfl isZ_0.1 C hW dX11_isRow_20 ⟨rfl, hq⟩
  · have hq := hq.2 c1
    refine lv_iload_n hx hb dX11_isRow_4 rfl (lv_at hl 1 rfl) ?_
    refine lv_aload_n hx hb dX11_isRow_5 rfl (lv_at hl 0 rfl) ?_
    refine gt11_4 C hK hW (rfl : shC 0 = 11) (List.mem_cons_of_mem _ mw24) (fun _ h9 => List.mem_cons_of_mem _ (inU_wsX110 _ h9)) dX11_isRow_6 ?_
    have hr2 := hq.1
    have hq := hq.2
    refine gt7_0 C hK hW hr2 (List.mem_cons_of_mem _ mw749) (fun _ h9 => List.mem_cons_of_mem _ (inU_wsX70 _ h9)) dX11_isRow_9 ?_
    refine lv_icmp_ge (tgt := 19) hx hb dX11_isRow_12 (by decide) (fun c3 => ?_) (fun c3 => ?_)
    · have hq := hq.1 c3
      refine lv_iconst (v := 0) hx hb dX11_isRow_19 (by decide) ?_
      exact k_zret rfl isZ_0.1 C hW dX11_isRow_20 ⟨rfl, hq⟩
    · have hq := hq.2 c3
      refine lv_iconst (v := 1) hx hb dX11_isRow_15 (by decide) ?_
      refine lv_goto (tgt := 20) hx hb dX11_isRow_16 (by decide) ?_
      exact k_zret rfl isZ_1.1 C hW dX11_isRow_20 ⟨rfl, hq⟩
theorem c_X11_isRow (l : Launch) (G : wG) (h : hp) (x1 : Int32) (Q : Int32 → Prop) (hq : w_X11_isRow h x1 Q) : ctI l SC G yX11_isRow wUX11_isRow rmX11_isRow h [.ref (G.2.2 0), .int x1] (fun r9 h9 => h9 = h ∧ Q r9) := by
  refine k_start (cc := cX11_isRow) (maxL := 2) (rt := (some .boolean)) (own := RX11) (by decide +kernel) rfl rfl (Nat.le_of_ble_eq_true rfl) ?_
  intro p e s m below meth c ls C hK hW hl
  exact k_X11_isRow_0 C hK hW hl hq
theorem k_X11_areTwoRows_0 {Q : Int32 → Prop} {x1 : Int32} {x2 : Int32} {h : hp} (C : kC p s m args meth c cX11_areTwoRows 3 (some .boolean) RX11 wUX11_areTwoRows) (hK : kK G s) {H : Heap} {locs : List Loc} {ls : Array Slot} (hW : kW SC G h (aS SC G) s H locs) (hl : lv_has ls 3 [(0, .ref (G.2.2 0)), (1, .int x1), (2, .int x2)]) (hq : w_X11_areTwoRows_0 Q x1 x2 h) : W p l e rmX11_areTwoRows s m args below meth c H locs 0 0 (MQ below (va_Qi (fun r9 h9 => h9 = h ∧ Q r9) (kB SC G) (aS SC G)) args s 0 0 (aS SC G)) (F0 m 0 ls []) := by
  have hx := C.1
  have hb := C.2.1
  unfold w_X11_areTwoRows_0 at hq
  refine lv_aload_n hx hb dX11_areTwoRows_0 rfl (lv_at hl 0 rfl) ?_
  refine lv_iload_n hx hb dX11_areTwoRows_1 rfl (lv_at hl 1 rfl) ?_
  refine k_ci hW (va_runV (As := [.int x1]) (rest := []) (k_fix C) (c_X11_isRow l G h x1 _ hq) (cwV 1 C.2.2.2.2.2.1 (gU_V mw745 mw746 mw747 mw2 mw748) rfl rfl rfl (by decide +kernel) ⟨Nat.le_of_ble_eq_true rfl, Nat.le_of_ble_eq_true rfl⟩) (k_preV hK hW (shC_lt (rfl : shC 0 = 11) (by decide)) (ceC_11 (rfl : shC 0 = 11)) (q := (RX11, TX11, 11)) rfl) rfl rfl hl.1 rfl (lv_room (Nat.le_of_ble_eq_true rfl)) dX11_areTwoRows_2 ⟨Nat.le_refl 0, Nat.le_refl 0⟩) (fun r1 h2 H locs hq hW => ?_)
  rw [hq.1] at hW
  have hq := hq.2
  refine lv_if_eq (tgt := 25) hx hb dX11_areTwoRows_5 (by decide) (fun c3 => ?_) (fun c3 => ?_)
  · have hq := hq.1 c3
    refine lv_iconst (v := 0) hx hb dX11_areTwoRows_25 (by decide) ?_
    exact k_zret rfl isZ_0.1 C hW dX11_areTwoRows_26 ⟨rfl, hq⟩
  · have hq := hq.2 c3
    refine lv_aload_n hx hb dX11_areTwoRows_8 rfl (lv_at hl 0 rfl) ?_
    refine lv_iload_n hx hb dX11_areTwoRows_9 rfl (lv_at hl 2 rfl) ?_
    refine k_ci hW (va_runV (As := [.int x2]) (rest := []) (k_fix C) (c_X11_isRow l G h x2 _ hq) (cwV 1 C.2.2.2.2.2.1 (gU_V mw745 mw746 mw747 mw2 mw748) rfl rfl rfl (by decide +kernel) ⟨Nat.le_of_ble_eq_true rfl, Nat.le_of_ble_eq_true rfl⟩) (k_preV hK hW (shC_lt (rfl : shC 0 = 11) (by decide)) (ceC_11 (rfl : shC 0 = 11)) (q := (RX11, TX11, 11)) rfl) rfl rfl hl.1 rfl (lv_room (Nat.le_of_ble_eq_true rfl)) dX11_areTwoRows_10 ⟨Nat.le_refl 0, Nat.le_refl 0⟩) (fun r4 h5 H locs hq hW => ?_)
    rw [hq.1] at hW
    have hq := hq.2
    refine lv_if_eq (tgt := 25) hx hb dX11_areTwoRows_13 (by decide) (fun c6 => ?_) (fun c6 => ?_)
    · have hq := hq.1 c6
      refine lv_iconst (v := 0) hx hb dX11_areTwoRows_25 (by decide) ?_
      exact k_zret rfl isZ_0.1 C hW dX11_areTwoRows_26 ⟨rfl, hq⟩
    · have hq := hq.2 c6
      refine lv_iload_n hx hb dX11_areTwoRows_16 rfl (lv_at hl 1 rfl) ?_
      refine lv_iload_n hx hb dX11_areTwoRows_17 rfl (lv_at hl 2 rfl) ?_
      refine lv_icmp_eq (tgt := 25) hx hb dX11_areTwoRows_18 (by decide) (fun c7 => ?_) (fun c7 => ?_)
      · have hq := hq.1 c7
        refine lv_iconst (v := 0) hx hb dX11_areTwoRows_25 (by decide) ?_
        exact k_zret rfl isZ_0.1 C hW dX11_areTwoRows_26 ⟨rfl, hq⟩
      · have hq := hq.2 c7
        refine lv_iconst (v := 1) hx hb dX11_areTwoRows_21 (by decide) ?_
        refine lv_goto (tgt := 26) hx hb dX11_areTwoRows_22 (by decide) ?_
        exact k_zret rfl isZ_1.1 C hW dX11_areTwoRows_26 ⟨rfl, hq⟩
theorem c_X11_areTwoRows (l : Launch) (G : wG) (h : hp) (x1 : Int32) (x2 : Int32) (Q : Int32 → Prop) (hq : w_X11_areTwoRows h x1 x2 Q) : ctI l SC G yX11_areTwoRows wUX11_areTwoRows rmX11_areTwoRows h [.ref (G.2.2 0), .int x1, .int x2] (fun r9 h9 => h9 = h ∧ Q r9) := by
  refine k_start (cc := cX11_areTwoRows) (maxL := 3) (rt := (some .boolean)) (own := RX11) (by decide +kernel) rfl rfl (Nat.le_of_ble_eq_true rfl) ?_
  intro p e s m below meth c ls C hK hW hl
  exact k_X11_areTwoRows_0 C hK hW hl hq
theorem k_X11_row_0 {Q : Int32 → Prop} {x1 : Int32} {x2 : Int32} {h : hp} (C : kC p s m args meth c cX11_row 4 (some .int) RX11 wUX11_row) (hK : kK G s) {H : Heap} {locs : List Loc} {ls : Array Slot} (hW : kW SC G h (aS SC G) s H locs) (hl : lv_has ls 4 [(0, .ref (G.2.2 0)), (1, .int x1), (2, .int x2)]) (hq : w_X11_row_0 Q x1 x2 h) : W p l e rmX11_row s m args below meth c H locs 0 0 (MQ below (va_Qi (fun r9 h9 => h9 = h ∧ Q r9) (kB SC G) (aS SC G)) args s 0 0 (aS SC G)) (F0 m 0 ls []) := by
  have hx := C.1
  have hb := C.2.1
  unfold w_X11_row_0 at hq
  refine lv_aload_n hx hb dX11_row_0 rfl (lv_at hl 0 rfl) ?_
  refine lv_iload_n hx hb dX11_row_1 rfl (lv_at hl 1 rfl) ?_
  refine k_ci hW (va_runV (As := [.int x1]) (rest := []) (k_fix C) (c_X11_isRow l G h x1 _ hq) (cwV 1 C.2.2.2.2.2.1 (gU_V mw745 mw746 mw747 mw2 mw748) rfl rfl rfl (by decide +kernel) ⟨Nat.le_of_ble_eq_true rfl, Nat.le_of_ble_eq_true rfl⟩) (k_preV hK hW (shC_lt (rfl : shC 0 = 11) (by decide)) (ceC_11 (rfl : shC 0 = 11)) (q := (RX11, TX11, 11)) rfl) rfl rfl hl.1 rfl (lv_room (Nat.le_of_ble_eq_true rfl)) dX11_row_2 ⟨Nat.le_refl 0, Nat.le_refl 0⟩) (fun r1 h2 H locs hq hW => ?_)
  rw [hq.1] at hW
  have hq := hq.2
  refine lv_if_ne (tgt := 12) hx hb dX11_row_5 (by decide) (fun c3 => ?_) (fun c3 => ?_)
  · have hq := hq.1 c3
    refine lv_aload_n hx hb dX11_row_12 rfl (lv_at hl 0 rfl) ?_
    refine gt11_4 C hK hW (rfl : shC 0 = 11) (List.mem_cons_of_mem _ mw24) (fun _ h9 => List.mem_cons_of_mem _ (inU_wsX110 _ h9)) dX11_row_13 ?_
    have hr4 := hq.1
    have hq := hq.2
    refine gt7_1 C hK hW hr4 (List.mem_cons_of_mem _ mw744) (fun _ h9 => List.mem_cons_of_mem _ (inU_wsX70 _ h9)) dX11_row_16 ?_
    refine lv_iload_n hx hb dX11_row_19 rfl (lv_at hl 1 rfl) ?_
    refine k_iald C hK hW (shC_lt (sl7_1 hr4).1 (by decide)) (ceC_14 (sl7_1 hr4).1 (sl7_1 hr4).2) hq.1 dX11_row_20 ?_
    have hq := hq.2
    refine lv_topi (fun x3_5 ex3_5 => ?_)
    have hq := hq x3_5 ex3_5
    refine lv_istore_n (lv' := [(3, .int x3_5), (0, .ref (G.2.2 0)), (1, .int x1), (2, .int x2)]) hx hb dX11_row_21 rfl hl (by decide) rfl (fun ls hl => ?_)
    refine lv_iload_n hx hb dX11_row_22 rfl (lv_at hl 3 rfl) ?_
    refine lv_iconst (v := (-1)) hx hb dX11_row_23 (by decide) ?_
    refine lv_icmp_ne (tgt := 29) hx hb dX11_row_24 (by decide) (fun c6 => ?_) (fun c6 => ?_)
    · have hq := hq.1 c6
      refine lv_iload_n hx hb dX11_row_29 rfl (lv_at hl 3 rfl) ?_
      refine lv_if_lt (tgt := 50) hx hb dX11_row_30 (by decide) (fun c7 => ?_) (fun c7 => ?_)
      · have hq := hq.1 c7
        refine lv_sipush (v := (-1000)) hx hb dX11_row_50 (by decide) ?_
        exact k_iret rfl C hW dX11_row_53 ⟨rfl, hq⟩
      · have hq := hq.2 c7
        refine lv_iload_n hx hb dX11_row_33 rfl (lv_at hl 3 rfl) ?_
        refine lv_iload_n hx hb dX11_row_34 rfl (lv_at hl 0 rfl) ?_
        refine lv_icmp_ge (tgt := 50) hx hb dX11_row_35 (by decide) (fun c8 => ?_) (fun c8 => ?_)
        · have hq := hq.1 c8
          refine lv_sipush (v := (-1000)) hx hb dX11_row_50 (by decide) ?_
          exact k_iret rfl C hW dX11_row_53 ⟨rfl, hq⟩
        · have hq := hq.2 c8
          refine lv_aload_n hx hb dX11_row_38 rfl (lv_at hl 1 rfl) ?_
          refine gt11_4 C hK hW (rfl : shC 0 = 11) (List.mem_cons_of_mem _ mw24) (fun _ h9 => List.mem_cons_of_mem _ (inU_wsX110 _ h9)) dX11_row_39 ?_
          have hr9 := hq.1
          have hq := hq.2
          refine lv_iload_n hx hb dX11_row_42 rfl (lv_at hl 2 rfl) ?_
          refine lv_iload_n hx hb dX11_row_43 rfl (lv_at hl 3 rfl) ?_
          refine k_ci hW (va_runV (As := [.int x1, .int x2]) (rest := []) (k_fix C) (c_X7_numberAt l G hr9 h x1 x2 _ hq) (cwV 2 C.2.2.2.2.2.1 (gU_V mw750 mw751 mw752 mw23 mw753) rfl rfl rfl (by decide +kernel) ⟨Nat.le_of_ble_eq_true rfl, Nat.le_of_ble_eq_true rfl⟩) (k_preV hK hW (shC_lt hr9 (by decide)) (ceC_7 hr9) (q := (RX7, TX7, 10)) rfl) rfl rfl hl.1 rfl (lv_room (Nat.le_of_ble_eq_true rfl)) dX11_row_44 ⟨Nat.le_refl 0, Nat.le_refl 0⟩) (fun r10 h11 H locs hq hW => ?_)
          rw [hq.1] at hW
          have hq := hq.2
          refine lv_goto (tgt := 53) hx hb dX11_row_47 (by decide) ?_
          exact k_iret rfl C hW dX11_row_53 ⟨rfl, hq⟩
    · have hq := hq.2 c6
      refine lv_iload_n hx hb dX11_row_27 rfl (lv_at hl 0 rfl) ?_
      exact k_iret rfl C hW dX11_row_28 ⟨rfl, hq⟩
  · have hq := hq.2 c3
    refine lv_sipush (v := (-1000)) hx hb dX11_row_8 (by decide) ?_
    exact k_iret rfl C hW dX11_row_11 ⟨rfl, hq⟩
theorem c_X11_row (l : Launch) (G : wG) (h : hp) (x1 : Int32) (x2 : Int32) (Q : Int32 → Prop) (hq : w_X11_row h x1 x2 Q) : ctI l SC G yX11_row wUX11_row rmX11_row h [.ref (G.2.2 0), .int x1, .int x2] (fun r9 h9 => h9 = h ∧ Q r9) := by
  refine k_start (cc := cX11_row) (maxL := 4) (rt := (some .int)) (own := RX11) (by decide +kernel) rfl rfl (Nat.le_of_ble_eq_true rfl) ?_
  intro p e s m below meth c ls C hK hW hl
  exact k_X11_row_0 C hK hW hl hq
theorem k_X11_comes_0 {Q : Int64 → Prop} {x1 : Int32} {x2 : Int32} {h : hp} (C : kC p s m args meth c cX11_comes 3 (some .long) RX11 wUX11_comes) (hK : kK G s) {H : Heap} {locs : List Loc} {ls : Array Slot} (hW : kW SC G h (aS SC G) s H locs) (hl : lv_has ls 3 [(0, .ref (G.2.2 0)), (1, .int x1), (2, .int x2)]) (hq : w_X11_comes_0 Q x1 x2 h) : W p l e rmX11_comes s m args below meth c H locs 0 0 (MQ below (va_Ql (fun r9 h9 => h9 = h ∧ Q r9) (kB SC G) (aS SC G)) args s 0 0 (aS SC G)) (F0 m 0 ls []) := by
  have hx := C.1
  have hb := C.2.1
  unfold w_X11_comes_0 at hq
  refine lv_aload_n hx hb dX11_comes_0 rfl (lv_at hl 0 rfl) ?_
  refine lv_iload_n hx hb dX11_comes_1 rfl (lv_at hl 1 rfl) ?_
  refine k_ci hW (va_runV (As := [.int x1]) (rest := []) (k_fix C) (c_X11_isRow l G h x1 _ hq) (cwV 1 C.2.2.2.2.2.1 (gU_V mw745 mw746 mw747 mw2 mw748) rfl rfl rfl (by decide +kernel) ⟨Nat.le_of_ble_eq_true rfl, Nat.le_of_ble_eq_true rfl⟩) (k_preV hK hW (shC_lt (rfl : shC 0 = 11) (by decide)) (ceC_11 (rfl : shC 0 = 11)) (q := (RX11, TX11, 11)) rfl) rfl rfl hl.1 rfl (lv_room (Nat.le_of_ble_eq_true rfl)) dX11_comes_2 ⟨Nat.le_refl 0, Nat.le_refl 0⟩) (fun r1 h2 H locs hq hW => ?_)
  rw [hq.1] at hW
  have hq := hq.2
  refine lv_if_eq (tgt := 22) hx hb dX11_comes_5 (by decide) (fun c3 => ?_) (fun c3 => ?_)
  · have hq := hq.1 c3
    refine lv_ldc2 (v := (-2000000000000000000)) hx hb C.2.2.2.2.1 (C.2.2.2.2.2.1 _ (List.mem_cons_of_mem _ mw779)) dX11_comes_22 ?_
    exact k_lret rfl C hW dX11_comes_25 ⟨rfl, hq⟩
  · have hq := hq.2 c3
    refine lv_iload_n hx hb dX11_comes_8 rfl (lv_at hl 2 rfl) ?_
    refine lv_i2l (v := x2.toInt64) hx hb dX11_comes_9 rfl ?_
    refine lv_ldc2 (v := (-999)) hx hb C.2.2.2.2.1 (C.2.2.2.2.2.1 _ (List.mem_cons_of_mem _ mw777)) dX11_comes_10 ?_
    refine lv_ldc2 (v := 999) hx hb C.2.2.2.2.1 (C.2.2.2.2.2.1 _ (List.mem_cons_of_mem _ mw778)) dX11_comes_13 ?_
    refine k_ci hW (va_runS (As := [.long (x2.toInt64), .long (-999), .long 999]) (rest := []) (k_fix C) (c_X11_within l G h (x2.toInt64) (-999) 999 _ hq) (va_cwS 3 C.2.2.2.2.2.1 (gU_S mw780 mw446 mw2 mw447) rfl rfl rfl (by decide +kernel) ⟨Nat.le_of_ble_eq_true rfl, Nat.le_of_ble_eq_true rfl⟩) (k_preS hK hW) rfl rfl hl.1 rfl (lv_room (Nat.le_of_ble_eq_true rfl)) dX11_comes_16 ⟨Nat.le_refl 0, Nat.le_refl 0⟩) (fun r4 h5 H locs hq hW => ?_)
    rw [hq.1] at hW
    have hq := hq.2
    refine lv_if_ne (tgt := 26) hx hb dX11_comes_19 (by decide) (fun c6 => ?_) (fun c6 => ?_)
    · have hq := hq.1 c6
      refine lv_aload_n hx hb dX11_comes_26 rfl (lv_at hl 0 rfl) ?_
      refine gt11_4 C hK hW (rfl : shC 0 = 11) (List.mem_cons_of_mem _ mw24) (fun _ h9 => List.mem_cons_of_mem _ (inU_wsX110 _ h9)) dX11_comes_27 ?_
      have hr7 := hq.1
      have hq := hq.2
      refine lv_iload_n hx hb dX11_comes_30 rfl (lv_at hl 1 rfl) ?_
      refine lv_iload_n hx hb dX11_comes_31 rfl (lv_at hl 2 rfl) ?_
      refine lv_i2l (v := x2.toInt64) hx hb dX11_comes_32 rfl ?_
      refine k_cl hW (va_runV (As := [.int x1, .long (x2.toInt64)]) (rest := []) (k_fix C) (c_X7_comesTo l G hr7 h x1 (x2.toInt64) _ hq) (cwV 2 C.2.2.2.2.2.1 (gU_V mw781 mw782 mw783 mw23 mw784) rfl rfl rfl (by decide +kernel) ⟨Nat.le_of_ble_eq_true rfl, Nat.le_of_ble_eq_true rfl⟩) (k_preV hK hW (shC_lt hr7 (by decide)) (ceC_7 hr7) (q := (RX7, TX7, 10)) rfl) rfl rfl hl.1 rfl (lv_room (Nat.le_of_ble_eq_true rfl)) dX11_comes_33 ⟨Nat.le_refl 0, Nat.le_refl 0⟩) (fun r8 h9 H locs hq hW => ?_)
      rw [hq.1] at hW
      have hq := hq.2
      exact k_lret rfl C hW dX11_comes_36 ⟨rfl, hq⟩
    · have hq := hq.2 c6
      refine lv_ldc2 (v := (-2000000000000000000)) hx hb C.2.2.2.2.1 (C.2.2.2.2.2.1 _ (List.mem_cons_of_mem _ mw779)) dX11_comes_22 ?_
      exact k_lret rfl C hW dX11_comes_25 ⟨rfl, hq⟩
theorem c_X11_comes (l : Launch) (G : wG) (h : hp) (x1 : Int32) (x2 : Int32) (Q : Int64 → Prop) (hq : w_X11_comes h x1 x2 Q) : ctL l SC G yX11_comes wUX11_comes rmX11_comes h [.ref (G.2.2 0), .int x1, .int x2] (fun r9 h9 => h9 = h ∧ Q r9) := by
  refine k_start (cc := cX11_comes) (maxL := 3) (rt := (some .long)) (own := RX11) (by decide +kernel) rfl rfl (Nat.le_of_ble_eq_true rfl) ?_
  intro p e s m below meth c ls C hK hW hl
  exact k_X11_comes_0 C hK hW hl hq
theorem k_X11_figuresOf_b21 {Q : Int32 → Prop} {X21 : Int32 × Int64 → Prop} {h : hp} (C : kC p s m args meth c cX11_figuresOf 5 (some .int) RX11 wUX11_figuresOf) (hK : kK G s) (hX21 : ∀ (x2 : Int32) (x3 : Int64) (H : Heap) (locs : List Loc) (ls : Array Slot), kW SC G h (aS SC G) s H locs → lv_has ls 5 [(2, .int x2), (3, .long x3)] → X21 (x2, x3) → W p l e rmX11_figuresOf s m args below meth c H locs 0 0 (MQ below (va_Qi (fun r9 h9 => h9 = h ∧ Q r9) (kB SC G) (aS SC G)) args s 0 0 (aS SC G)) (F0 m 21 ls [])) {x2 : Int32} {x3 : Int64} {H : Heap} {locs : List Loc} {ls : Array Slot} (hW : kW SC G h (aS SC G) s H locs) (hl : lv_has ls 5 [(2, .int x2), (3, .long x3)]) (hq : w_X11_figuresOf_b21 Q X21 x2 x3) : W p l e rmX11_figuresOf s m args below meth c H locs 0 0 (MQ below (va_Qi (fun r9 h9 => h9 = h ∧ Q r9) (kB SC G) (aS SC G)) args s 0 0 (aS SC G)) (F0 m 21 ls []) := by
  have hx := C.1
  have hb := C.2.1
  unfold w_X11_figuresOf_b21 at hq
  refine lv_lload_n hx hb dX11_figuresOf_21 rfl (lv_at hl 1 rfl) ?_
  refine lv_lconst (v := 0) hx hb dX11_figuresOf_22 (by decide) ?_
  refine W.lcmp hx hb dX11_figuresOf_23 ?_
  refine lv_if_le (tgt := 39) hx hb dX11_figuresOf_24 (by decide) (fun c3 => ?_) (fun c3 => ?_)
  · have hq := hq.1 ((lg_cmp_le _ _).mp c3)
    refine lv_iload_n hx hb dX11_figuresOf_39 rfl (lv_at hl 0 rfl) ?_
    exact k_iret rfl C hW dX11_figuresOf_40 ⟨rfl, hq⟩
  · have hq := hq.2 (fun z => c3 ((lg_cmp_le _ _).mpr z))
    obtain ⟨x2_4, ex2_4⟩ : ∃ y : Int32, y = x2 + 1 := ⟨_, rfl⟩
    have hq := hq x2_4 ex2_4
    refine lv_iinc (v := x2_4) (lv' := [(2, .int x2_4), (3, .long x3)]) hx hb dX11_figuresOf_27 hl (k := 0) rfl (by rw [ex2_4]; rfl) (by decide) rfl (fun ls hl => ?_)
    refine lv_lload_n hx hb dX11_figuresOf_30 rfl (lv_at hl 1 rfl) ?_
    refine lv_ldc2 (v := 10) hx hb C.2.2.2.2.1 (C.2.2.2.2.2.1 _ (List.mem_cons_of_mem _ mw814)) dX11_figuresOf_31 ?_
    refine lv_ldiv hx hb dX11_figuresOf_34 (by decide) ?_
    refine lv_topl (fun x3_5 ex3_5 => ?_)
    have hq := hq x3_5 ex3_5
    refine lv_lstore_n (lv' := [(3, .long x3_5), (2, .int x2_4)]) hx hb dX11_figuresOf_35 rfl hl (by decide) rfl (fun ls hl => ?_)
    refine lv_goto (tgt := 21) hx hb dX11_figuresOf_36 (by decide) ?_
    exact hX21 _ _ _ _ _ hW (lv_sub hl [1, 0] rfl) hq
theorem k_X11_figuresOf_21 {Q : Int32 → Prop} {h : hp} (C : kC p s m args meth c cX11_figuresOf 5 (some .int) RX11 wUX11_figuresOf) (hK : kK G s) {x2 : Int32} {x3 : Int64} {H : Heap} {locs : List Loc} {ls : Array Slot} (hW : kW SC G h (aS SC G) s H locs) (hl : lv_has ls 5 [(2, .int x2), (3, .long x3)]) (hq : w_X11_figuresOf_21 Q x2 x3) : W p l e rmX11_figuresOf s m args below meth c H locs 0 0 (MQ below (va_Qi (fun r9 h9 => h9 = h ∧ Q r9) (kB SC G) (aS SC G)) args s 0 0 (aS SC G)) (F0 m 21 ls []) := by
  have key := hq (fun (q : Int32 × Int64) => ∀ (H : Heap) (locs : List Loc) (ls : Array Slot), kW SC G h (aS SC G) s H locs → lv_has ls 5 [(2, .int q.1), (3, .long q.2)] → W p l e rmX11_figuresOf s m args below meth c H locs 0 0 (MQ below (va_Qi (fun r9 h9 => h9 = h ∧ Q r9) (kB SC G) (aS SC G)) args s 0 0 (aS SC G)) (F0 m 21 ls []))
    (fun q hq H locs ls hW hl => k_X11_figuresOf_b21 C hK (fun x2 x3 H locs ls hW hl hI => hI H locs ls hW hl) hW hl hq)
  exact key _ _ _ hW hl
theorem k_X11_figuresOf_11 {Q : Int32 → Prop} {x0 : Int64} {h : hp} {s0 : Int32} (C : kC p s m args meth c cX11_figuresOf 5 (some .int) RX11 wUX11_figuresOf) (hK : kK G s) {H : Heap} {locs : List Loc} {ls : Array Slot} (hW : kW SC G h (aS SC G) s H locs) (hl : lv_has ls 5 [(0, .long x0)]) (hq : w_X11_figuresOf_11 Q x0 s0) : W p l e rmX11_figuresOf s m args below meth c H locs 0 0 (MQ below (va_Qi (fun r9 h9 => h9 = h ∧ Q r9) (kB SC G) (aS SC G)) args s 0 0 (aS SC G)) (F0 m 11 ls [.int s0]) := by
  have hx := C.1
  have hb := C.2.1
  unfold w_X11_figuresOf_11 at hq
  refine lv_istore_n (lv' := [(2, .int s0), (0, .long x0)]) hx hb dX11_figuresOf_11 rfl hl (by decide) rfl (fun ls hl => ?_)
  refine lv_lload_n hx hb dX11_figuresOf_12 rfl (lv_at hl 1 rfl) ?_
  refine va_mabs_long hx hb (C.2.2.2.1.trans hl.1.symm) C.2.2.2.2.1 (C.2.2.2.2.2.1 _ (List.mem_cons_of_mem _ mw811)) (C.2.2.2.2.2.1 _ (List.mem_cons_of_mem _ mw812)) (C.2.2.2.2.2.1 _ (List.mem_cons_of_mem _ mw510)) (C.2.2.2.2.2.1 _ (List.mem_cons_of_mem _ mw813)) (Nat.le_of_ble_eq_true rfl) (Nat.le_of_ble_eq_true rfl) (Nat.le_refl 0) (Nat.le_refl 0) dX11_figuresOf_13 ?_
  refine lv_ldc2 (v := 10) hx hb C.2.2.2.2.1 (C.2.2.2.2.2.1 _ (List.mem_cons_of_mem _ mw814)) dX11_figuresOf_16 ?_
  refine lv_ldiv hx hb dX11_figuresOf_19 (by decide) ?_
  refine lv_topl (fun x3_2 ex3_2 => ?_)
  have hq := hq x3_2 ex3_2
  refine lv_lstore_n (lv' := [(3, .long x3_2), (2, .int s0), (0, .long x0)]) hx hb dX11_figuresOf_20 rfl hl (by decide) rfl (fun ls hl => ?_)
  exact k_X11_figuresOf_21 C hK hW (lv_sub hl [1, 0] rfl) hq
theorem k_X11_figuresOf_0 {Q : Int32 → Prop} {x0 : Int64} {h : hp} (C : kC p s m args meth c cX11_figuresOf 5 (some .int) RX11 wUX11_figuresOf) (hK : kK G s) {H : Heap} {locs : List Loc} {ls : Array Slot} (hW : kW SC G h (aS SC G) s H locs) (hl : lv_has ls 5 [(0, .long x0)]) (hq : w_X11_figuresOf_0 Q x0) : W p l e rmX11_figuresOf s m args below meth c H locs 0 0 (MQ below (va_Qi (fun r9 h9 => h9 = h ∧ Q r9) (kB SC G) (aS SC G)) args s 0 0 (aS SC G)) (F0 m 0 ls []) := by
  have hx := C.1
  have hb := C.2.1
  unfold w_X11_figuresOf_0 at hq
  refine lv_lload_n hx hb dX11_figuresOf_0 rfl (lv_at hl 0 rfl) ?_
  refine lv_lconst (v := 0) hx hb dX11_figuresOf_1 (by decide) ?_
  refine W.lcmp hx hb dX11_figuresOf_2 ?_
  refine lv_if_ge (tgt := 10) hx hb dX11_figuresOf_3 (by decide) (fun c1 => ?_) (fun c1 => ?_)
  · have hq := hq.1 ((lg_cmp_ge _ _).mp c1)
    refine lv_iconst (v := 1) hx hb dX11_figuresOf_10 (by decide) ?_
    exact k_X11_figuresOf_11 C hK hW (lv_sub hl [0] rfl) hq
  · have hq := hq.2 (fun z => c1 ((lg_cmp_ge _ _).mpr z))
    refine lv_iconst (v := 2) hx hb dX11_figuresOf_6 (by decide) ?_
    refine lv_goto (tgt := 11) hx hb dX11_figuresOf_7 (by decide) ?_
    exact k_X11_figuresOf_11 C hK hW (lv_sub hl [0] rfl) hq
theorem c_X11_figuresOf (l : Launch) (G : wG) (h : hp) (x0 : Int64) (Q : Int32 → Prop) (hq : w_X11_figuresOf x0 Q) : ctI l SC G yX11_figuresOf wUX11_figuresOf rmX11_figuresOf h [.long x0] (fun r9 h9 => h9 = h ∧ Q r9) := by
  refine k_start (cc := cX11_figuresOf) (maxL := 5) (rt := (some .int)) (own := RX11) (by decide +kernel) rfl rfl (Nat.le_of_ble_eq_true rfl) ?_
  intro p e s m below meth c ls C hK hW hl
  exact k_X11_figuresOf_0 C hK hW hl hq
theorem k_X11_two_0 {Q : Int64 → Prop} {x1 : Int32} {x2 : Int32} {h : hp} (C : kC p s m args meth c cX11_two 5 (some .long) RX11 wUX11_two) (hK : kK G s) {H : Heap} {locs : List Loc} {ls : Array Slot} (hW : kW SC G h (aS SC G) s H locs) (hl : lv_has ls 5 [(0, .ref (G.2.2 0)), (1, .int x1), (2, .int x2)]) (hq : w_X11_two_0 Q x1 x2 h) : W p l e rmX11_two s m args below meth c H locs 0 0 (MQ below (va_Ql (fun r9 h9 => h9 = h ∧ Q r9) (kB SC G) (aS SC G)) args s 0 0 (aS SC G)) (F0 m 0 ls []) := by
  have hx := C.1
  have hb := C.2.1
  unfold w_X11_two_0 at hq
  refine lv_aload_n hx hb dX11_two_0 rfl (lv_at hl 0 rfl) ?_
  refine lv_iload_n hx hb dX11_two_1 rfl (lv_at hl 1 rfl) ?_
  refine k_ci hW (va_runV (As := [.int x1]) (rest := []) (k_fix C) (c_X11_isRow l G h x1 _ hq) (cwV 1 C.2.2.2.2.2.1 (gU_V mw745 mw746 mw747 mw2 mw748) rfl rfl rfl (by decide +kernel) ⟨Nat.le_of_ble_eq_true rfl, Nat.le_of_ble_eq_true rfl⟩) (k_preV hK hW (shC_lt (rfl : shC 0 = 11) (by decide)) (ceC_11 (rfl : shC 0 = 11)) (q := (RX11, TX11, 11)) rfl) rfl rfl hl.1 rfl (lv_room (Nat.le_of_ble_eq_true rfl)) dX11_two_2 ⟨Nat.le_refl 0, Nat.le_refl 0⟩) (fun r1 h2 H locs hq hW => ?_)
  rw [hq.1] at hW
  have hq := hq.2
  refine lv_if_eq (tgt := 20) hx hb dX11_two_5 (by decide) (fun c3 => ?_) (fun c3 => ?_)
  · have hq := hq.1 c3
    refine lv_ldc2 (v := (-1)) hx hb C.2.2.2.2.1 (C.2.2.2.2.2.1 _ (List.mem_cons_of_mem _ mw802)) dX11_two_20 ?_
    exact k_lret rfl C hW dX11_two_23 ⟨rfl, hq⟩
  · have hq := hq.2 c3
    refine lv_iload_n hx hb dX11_two_8 rfl (lv_at hl 2 rfl) ?_
    refine lv_i2l (v := x2.toInt64) hx hb dX11_two_9 rfl ?_
    refine lv_lconst (v := 0) hx hb dX11_two_10 (by decide) ?_
    refine lv_ldc2 (v := 3) hx hb C.2.2.2.2.1 (C.2.2.2.2.2.1 _ (List.mem_cons_of_mem _ mw801)) dX11_two_11 ?_
    refine k_ci hW (va_runS (As := [.long (x2.toInt64), .long 0, .long 3]) (rest := []) (k_fix C) (c_X11_within l G h (x2.toInt64) 0 3 _ hq) (va_cwS 3 C.2.2.2.2.2.1 (gU_S mw780 mw446 mw2 mw447) rfl rfl rfl (by decide +kernel) ⟨Nat.le_of_ble_eq_true rfl, Nat.le_of_ble_eq_true rfl⟩) (k_preS hK hW) rfl rfl hl.1 rfl (lv_room (Nat.le_of_ble_eq_true rfl)) dX11_two_14 ⟨Nat.le_refl 0, Nat.le_refl 0⟩) (fun r4 h5 H locs hq hW => ?_)
    rw [hq.1] at hW
    have hq := hq.2
    refine lv_if_ne (tgt := 24) hx hb dX11_two_17 (by decide) (fun c6 => ?_) (fun c6 => ?_)
    · have hq := hq.1 c6
      refine lv_aload_n hx hb dX11_two_24 rfl (lv_at hl 0 rfl) ?_
      refine gt11_4 C hK hW (rfl : shC 0 = 11) (List.mem_cons_of_mem _ mw24) (fun _ h9 => List.mem_cons_of_mem _ (inU_wsX110 _ h9)) dX11_two_25 ?_
      have hr7 := hq.1
      have hq := hq.2
      refine lv_iload_n hx hb dX11_two_28 rfl (lv_at hl 1 rfl) ?_
      refine k_ci hW (va_runV (As := [.int x1]) (rest := []) (k_fix C) (c_X7_isSomeBelowZero l G hr7 h x1 _ hq) (cwV 1 C.2.2.2.2.2.1 (gU_V mw804 mw805 mw806 mw23 mw807) rfl rfl rfl (by decide +kernel) ⟨Nat.le_of_ble_eq_true rfl, Nat.le_of_ble_eq_true rfl⟩) (k_preV hK hW (shC_lt hr7 (by decide)) (ceC_7 hr7) (q := (RX7, TX7, 10)) rfl) rfl rfl hl.1 rfl (lv_room (Nat.le_of_ble_eq_true rfl)) dX11_two_29 ⟨Nat.le_refl 0, Nat.le_refl 0⟩) (fun r8 h9 H locs hq hW => ?_)
      rw [hq.1] at hW
      have hq := hq.2
      refine lv_if_eq (tgt := 39) hx hb dX11_two_32 (by decide) (fun c10 => ?_) (fun c10 => ?_)
      · have hq := hq.1 c10
        refine lv_aload_n hx hb dX11_two_39 rfl (lv_at hl 0 rfl) ?_
        refine gt11_4 C hK hW (rfl : shC 0 = 11) (List.mem_cons_of_mem _ mw24) (fun _ h9 => List.mem_cons_of_mem _ (inU_wsX110 _ h9)) dX11_two_40 ?_
        have hr11 := hq.1
        have hq := hq.2
        refine lv_iload_n hx hb dX11_two_43 rfl (lv_at hl 1 rfl) ?_
        refine lv_lconst (v := 1) hx hb dX11_two_44 (by decide) ?_
        refine k_cl hW (va_runV (As := [.int x1, .long 1]) (rest := []) (k_fix C) (c_X7_comesTo l G hr11 h x1 1 _ hq) (cwV 2 C.2.2.2.2.2.1 (gU_V mw781 mw782 mw783 mw23 mw784) rfl rfl rfl (by decide +kernel) ⟨Nat.le_of_ble_eq_true rfl, Nat.le_of_ble_eq_true rfl⟩) (k_preV hK hW (shC_lt hr11 (by decide)) (ceC_7 hr11) (q := (RX7, TX7, 10)) rfl) rfl rfl hl.1 rfl (lv_room (Nat.le_of_ble_eq_true rfl)) dX11_two_45 ⟨Nat.le_refl 0, Nat.le_refl 0⟩) (fun r12 h13 H locs hq hW => ?_)
        rw [hq.1] at hW
        have hq := hq.2
        refine lv_lstore_n (lv' := [(3, .long r12), (0, .ref (G.2.2 0)), (1, .int x1), (2, .int x2)]) hx hb dX11_two_48 rfl hl (by decide) rfl (fun ls hl => ?_)
        refine lv_iload_n hx hb dX11_two_49 rfl (lv_at hl 3 rfl) ?_
        refine lv_topi (fun sw14 esw14 => ?_)
        have hq := hq sw14 esw14
        by_cases c15 : sw14 = 0
        · have hq := hq.1 c15
          refine k_top c15 ?_
          refine lv_tableIn (tgt := 76) (off := 26) hx hb dX11_two_50 (by decide) (by decide) (by decide) (by decide) ?_
          refine lv_lload_n hx hb dX11_two_76 rfl (lv_at hl 0 rfl) ?_
          exact k_lret rfl C hW dX11_two_77 ⟨rfl, hq⟩
        have hq := hq.2
        by_cases c16 : sw14 = 1
        · have hq := hq.1 c16
          refine k_top c16 ?_
          refine lv_tableIn (tgt := 78) (off := 28) hx hb dX11_two_50 (by decide) (by decide) (by decide) (by decide) ?_
          refine lv_lload_n hx hb dX11_two_78 rfl (lv_at hl 0 rfl) ?_
          refine lv_lconst (v := 1) hx hb dX11_two_79 (by decide) ?_
          refine lv_ladd hx hb dX11_two_80 ?_
          exact k_lret rfl C hW dX11_two_81 ⟨rfl, hq⟩
        have hq := hq.2
        by_cases c17 : sw14 = 2
        · have hq := hq.1 c17
          refine k_top c17 ?_
          refine lv_tableIn (tgt := 82) (off := 32) hx hb dX11_two_50 (by decide) (by decide) (by decide) (by decide) ?_
          refine lv_aload_n hx hb dX11_two_82 rfl (lv_at hl 1 rfl) ?_
          refine gt11_4 C hK hW (rfl : shC 0 = 11) (List.mem_cons_of_mem _ mw24) (fun _ h9 => List.mem_cons_of_mem _ (inU_wsX110 _ h9)) dX11_two_83 ?_
          have hr18 := hq.1
          have hq := hq.2
          refine lv_iload_n hx hb dX11_two_86 rfl (lv_at hl 2 rfl) ?_
          refine lv_lload_n hx hb dX11_two_87 rfl (lv_at hl 0 rfl) ?_
          refine lv_lconst (v := 1) hx hb dX11_two_88 (by decide) ?_
          refine lv_ladd hx hb dX11_two_89 ?_
          refine k_cl hW (va_runV (As := [.int x1, .long (r12 + 1)]) (rest := []) (k_fix C) (c_X7_comesTo l G hr18 h x1 (r12 + 1) _ hq) (cwV 2 C.2.2.2.2.2.1 (gU_V mw781 mw782 mw783 mw23 mw784) rfl rfl rfl (by decide +kernel) ⟨Nat.le_of_ble_eq_true rfl, Nat.le_of_ble_eq_true rfl⟩) (k_preV hK hW (shC_lt hr18 (by decide)) (ceC_7 hr18) (q := (RX7, TX7, 10)) rfl) rfl rfl hl.1 rfl (lv_room (Nat.le_of_ble_eq_true rfl)) dX11_two_90 ⟨Nat.le_refl 0, Nat.le_refl 0⟩) (fun r19 h20 H locs hq hW => ?_)
          rw [hq.1] at hW
          have hq := hq.2
          exact k_lret rfl C hW dX11_two_93 ⟨rfl, hq⟩
        have hq := hq.2
        have c21 : sw14.toInt < 0 ∨ 2 < sw14.toInt := by
          rcases Int.lt_or_le sw14.toInt 0 with q | q
          · exact Or.inl q
          · refine Or.inr (Int.not_le.mp fun q2 => ?_)
            have q3 : sw14 = Int32.ofInt sw14.toInt := (Int32.ofInt_toInt sw14).symm
            have q4 : sw14.toInt = 0 ∨ sw14.toInt = 1 ∨ sw14.toInt = 2 := by omega
            rcases q4 with q4 | q4 | q4 <;> rw [q4] at q3 <;> simp_all
        refine lv_tableOut (tgt := 94) hx hb dX11_two_50 c21 (by decide) ?_
        have hq := hq c21
        refine lv_lconst (v := 1) hx hb dX11_two_94 (by decide) ?_
        refine k_ci hW (va_runS (As := [.long 1]) (rest := []) (k_fix C) (c_X11_figuresOf l G h 1 _ hq) (va_cwS 1 C.2.2.2.2.2.1 (gU_S mw808 mw809 mw2 mw810) rfl rfl rfl (by decide +kernel) ⟨Nat.le_of_ble_eq_true rfl, Nat.le_of_ble_eq_true rfl⟩) (k_preS hK hW) rfl rfl hl.1 rfl (lv_room (Nat.le_of_ble_eq_true rfl)) dX11_two_95 ⟨Nat.le_refl 0, Nat.le_refl 0⟩) (fun r22 h23 H locs hq hW => ?_)
        rw [hq.1] at hW
        have hq := hq.2
        refine lv_lload_n hx hb dX11_two_98 rfl (lv_at hl 0 rfl) ?_
        refine lv_lconst (v := 1) hx hb dX11_two_99 (by decide) ?_
        refine lv_ladd hx hb dX11_two_100 ?_
        refine k_ci hW (va_runS (As := [.long (r12 + 1)]) (rest := [.int r22]) (k_fix C) (c_X11_figuresOf l G h (r12 + 1) _ hq) (va_cwS 1 C.2.2.2.2.2.1 (gU_S mw808 mw809 mw2 mw810) rfl rfl rfl (by decide +kernel) ⟨Nat.le_of_ble_eq_true rfl, Nat.le_of_ble_eq_true rfl⟩) (k_preS hK hW) rfl rfl hl.1 rfl (lv_room (Nat.le_of_ble_eq_true rfl)) dX11_two_101 ⟨Nat.le_refl 0, Nat.le_refl 0⟩) (fun r24 h25 H locs hq hW => ?_)
        rw [hq.1] at hW
        have hq := hq.2
        refine lv_iadd hx hb dX11_two_104 ?_
        refine lv_i2l (v := (r22 + r24).toInt64) hx hb dX11_two_105 rfl ?_
        exact k_lret rfl C hW dX11_two_106 ⟨rfl, hq⟩
      · have hq := hq.2 c10
        refine lv_ldc2 (v := (-2)) hx hb C.2.2.2.2.1 (C.2.2.2.2.2.1 _ (List.mem_cons_of_mem _ mw803)) dX11_two_35 ?_
        exact k_lret rfl C hW dX11_two_38 ⟨rfl, hq⟩
    · have hq := hq.2 c6
      refine lv_ldc2 (v := (-1)) hx hb C.2.2.2.2.1 (C.2.2.2.2.2.1 _ (List.mem_cons_of_mem _ mw802)) dX11_two_20 ?_
      exact k_lret rfl C hW dX11_two_23 ⟨rfl, hq⟩
theorem c_X11_two (l : Launch) (G : wG) (h : hp) (x1 : Int32) (x2 : Int32) (Q : Int64 → Prop) (hq : w_X11_two h x1 x2 Q) : ctL l SC G yX11_two wUX11_two rmX11_two h [.ref (G.2.2 0), .int x1, .int x2] (fun r9 h9 => h9 = h ∧ Q r9) := by
  refine k_start (cc := cX11_two) (maxL := 5) (rt := (some .long)) (own := RX11) (by decide +kernel) rfl rfl (Nat.le_of_ble_eq_true rfl) ?_
  intro p e s m below meth c ls C hK hW hl
  exact k_X11_two_0 C hK hW hl hq
theorem k_X11_figure_87 {Q : Int32 → Prop} {X52 : Int32 × Int32 × Int64 × Int32 → Prop} {x3 : Int32} {x4 : Int32} {x5 : Int32} {x6 : Int32} {x7 : Int64} {x9 : Int32} {h : hp} (C : kC p s m args meth c cX11_figure 10 (some .int) RX11 wUX11_figure) (hK : kK G s) (hX52 : ∀ (x5 : Int32) (x6 : Int32) (x7 : Int64) (x9 : Int32) (H : Heap) (locs : List Loc) (ls : Array Slot), kW SC G h (aS SC G) s H locs → lv_has ls 10 [(3, .int x3), (4, .int x4), (5, .int x5), (6, .int x6), (7, .long x7), (9, .int x9)] → X52 (x5, x6, x7, x9) → W p l e rmX11_figure s m args below meth c H locs 0 0 (MQ below (va_Qi (fun r9 h9 => h9 = h ∧ Q r9) (kB SC G) (aS SC G)) args s 0 0 (aS SC G)) (F0 m 52 ls [])) {H : Heap} {locs : List Loc} {ls : Array Slot} (hW : kW SC G h (aS SC G) s H locs) (hl : lv_has ls 10 [(3, .int x3), (4, .int x4), (5, .int x5), (6, .int x6), (7, .long x7), (9, .int x9)]) (hq : w_X11_figure_87 Q X52 x3 x4 x5 x6 x7 x9) : W p l e rmX11_figure s m args below meth c H locs 0 0 (MQ below (va_Qi (fun r9 h9 => h9 = h ∧ Q r9) (kB SC G) (aS SC G)) args s 0 0 (aS SC G)) (F0 m 87 ls []) := by
  have hx := C.1
  have hb := C.2.1
  unfold w_X11_figure_87 at hq
  refine lv_lload hx hb dX11_figure_87 (lv_at hl 4 rfl) ?_
  refine lv_iload_n hx hb dX11_figure_89 rfl (lv_at hl 0 rfl) ?_
  refine lv_i2l (v := x3.toInt64) hx hb dX11_figure_90 rfl ?_
  refine lv_ldiv hx hb dX11_figure_91 hq.1 ?_
  have hq := hq.2
  refine lv_topl (fun x7_17 ex7_17 => ?_)
  have hq := hq x7_17 ex7_17
  refine lv_lstore (lv' := [(7, .long x7_17), (3, .int x3), (4, .int x4), (5, .int x5), (6, .int x6), (9, .int x9)]) hx hb dX11_figure_92 hl (by decide) rfl (fun ls hl => ?_)
  obtain ⟨x9_18, ex9_18⟩ : ∃ y : Int32, y = x9 + 1 := ⟨_, rfl⟩
  have hq := hq x9_18 ex9_18
  refine lv_iinc (v := x9_18) (lv' := [(9, .int x9_18), (7, .long x7_17), (3, .int x3), (4, .int x4), (5, .int x5), (6, .int x6)]) hx hb dX11_figure_94 hl (k := 5) rfl (by rw [ex9_18]; rfl) (by decide) rfl (fun ls hl => ?_)
  refine lv_goto (tgt := 52) hx hb dX11_figure_97 (by decide) ?_
  exact hX52 _ _ _ _ _ _ _ hW (lv_sub hl [2, 3, 4, 5, 1, 0] rfl) hq
theorem k_X11_figure_72 {Q : Int32 → Prop} {X52 : Int32 × Int32 × Int64 × Int32 → Prop} {x3 : Int32} {x4 : Int32} {x5 : Int32} {x6 : Int32} {x7 : Int64} {x9 : Int32} {h : hp} (C : kC p s m args meth c cX11_figure 10 (some .int) RX11 wUX11_figure) (hK : kK G s) (hX52 : ∀ (x5 : Int32) (x6 : Int32) (x7 : Int64) (x9 : Int32) (H : Heap) (locs : List Loc) (ls : Array Slot), kW SC G h (aS SC G) s H locs → lv_has ls 10 [(3, .int x3), (4, .int x4), (5, .int x5), (6, .int x6), (7, .long x7), (9, .int x9)] → X52 (x5, x6, x7, x9) → W p l e rmX11_figure s m args below meth c H locs 0 0 (MQ below (va_Qi (fun r9 h9 => h9 = h ∧ Q r9) (kB SC G) (aS SC G)) args s 0 0 (aS SC G)) (F0 m 52 ls [])) {H : Heap} {locs : List Loc} {ls : Array Slot} (hW : kW SC G h (aS SC G) s H locs) (hl : lv_has ls 10 [(3, .int x3), (4, .int x4), (5, .int x5), (6, .int x6), (7, .long x7), (9, .int x9)]) (hq : w_X11_figure_72 Q X52 x3 x4 x5 x6 x7 x9) : W p l e rmX11_figure s m args below meth c H locs 0 0 (MQ below (va_Qi (fun r9 h9 => h9 = h ∧ Q r9) (kB SC G) (aS SC G)) args s 0 0 (aS SC G)) (F0 m 72 ls []) := by
  have hx := C.1
  have hb := C.2.1
  unfold w_X11_figure_72 at hq
  refine lv_iload hx hb dX11_figure_72 (lv_at hl 5 rfl) ?_
  refine lv_iload hx hb dX11_figure_74 (lv_at hl 1 rfl) ?_
  refine lv_icmp_ne (tgt := 87) hx hb dX11_figure_76 (by decide) (fun c15 => ?_) (fun c15 => ?_)
  · have hq := hq.1 c15
    exact k_X11_figure_87 C hK hX52 hW (lv_sub hl [0, 1, 2, 3, 4, 5] rfl) hq
  · have hq := hq.2 c15
    refine lv_lload hx hb dX11_figure_79 (lv_at hl 4 rfl) ?_
    refine lv_iload_n hx hb dX11_figure_81 rfl (lv_at hl 0 rfl) ?_
    refine lv_i2l (v := x3.toInt64) hx hb dX11_figure_82 rfl ?_
    refine k_lrem hx hb dX11_figure_83 hq.1 ?_
    have hq := hq.2
    refine lv_l2i (v := (lrem x7 (x3.toInt64)).toInt32) hx hb dX11_figure_84 rfl ?_
    refine lv_topi (fun x6_16 ex6_16 => ?_)
    have hq := hq x6_16 ex6_16
    refine lv_istore (lv' := [(6, .int x6_16), (3, .int x3), (4, .int x4), (5, .int x5), (7, .long x7), (9, .int x9)]) hx hb dX11_figure_85 hl (by decide) rfl (fun ls hl => ?_)
    exact k_X11_figure_87 C hK hX52 hW (lv_sub hl [1, 2, 3, 0, 4, 5] rfl) hq
theorem k_X11_figure_b52 {Q : Int32 → Prop} {X52 : Int32 × Int32 × Int64 × Int32 → Prop} {x3 : Int32} {x4 : Int32} {h : hp} (C : kC p s m args meth c cX11_figure 10 (some .int) RX11 wUX11_figure) (hK : kK G s) (hX52 : ∀ (x5 : Int32) (x6 : Int32) (x7 : Int64) (x9 : Int32) (H : Heap) (locs : List Loc) (ls : Array Slot), kW SC G h (aS SC G) s H locs → lv_has ls 10 [(3, .int x3), (4, .int x4), (5, .int x5), (6, .int x6), (7, .long x7), (9, .int x9)] → X52 (x5, x6, x7, x9) → W p l e rmX11_figure s m args below meth c H locs 0 0 (MQ below (va_Qi (fun r9 h9 => h9 = h ∧ Q r9) (kB SC G) (aS SC G)) args s 0 0 (aS SC G)) (F0 m 52 ls [])) {x5 : Int32} {x6 : Int32} {x7 : Int64} {x9 : Int32} {H : Heap} {locs : List Loc} {ls : Array Slot} (hW : kW SC G h (aS SC G) s H locs) (hl : lv_has ls 10 [(3, .int x3), (4, .int x4), (5, .int x5), (6, .int x6), (7, .long x7), (9, .int x9)]) (hq : w_X11_figure_b52 Q x3 x4 X52 x5 x6 x7 x9) : W p l e rmX11_figure s m args below meth c H locs 0 0 (MQ below (va_Qi (fun r9 h9 => h9 = h ∧ Q r9) (kB SC G) (aS SC G)) args s 0 0 (aS SC G)) (F0 m 52 ls []) := by
  have hx := C.1
  have hb := C.2.1
  unfold w_X11_figure_b52 at hq
  refine lv_iload hx hb dX11_figure_52 (lv_at hl 5 rfl) ?_
  refine lv_bipush (v := 6) hx hb dX11_figure_54 (by decide) ?_
  refine lv_icmp_ge (tgt := 100) hx hb dX11_figure_56 (by decide) (fun c10 => ?_) (fun c10 => ?_)
  · have hq := hq.1 c10
    refine lv_lload hx hb dX11_figure_100 (lv_at hl 4 rfl) ?_
    refine lv_lconst (v := 0) hx hb dX11_figure_102 (by decide) ?_
    refine W.lcmp hx hb dX11_figure_103 ?_
    refine lv_if_le (tgt := 110) hx hb dX11_figure_104 (by decide) (fun c11 => ?_) (fun c11 => ?_)
    · have hq := hq.1 ((lg_cmp_le _ _).mp c11)
      refine lv_iload hx hb dX11_figure_110 (lv_at hl 1 rfl) ?_
      refine lv_bipush (v := 6) hx hb dX11_figure_112 (by decide) ?_
      refine lv_icmp_ne (tgt := 122) hx hb dX11_figure_114 (by decide) (fun c12 => ?_) (fun c12 => ?_)
      · have hq := hq.1 c12
        refine lv_iload hx hb dX11_figure_122 (lv_at hl 3 rfl) ?_
        exact k_iret rfl C hW dX11_figure_124 ⟨rfl, hq⟩
      · have hq := hq.2 c12
        refine lv_iload hx hb dX11_figure_117 (lv_at hl 2 rfl) ?_
        refine lv_goto (tgt := 124) hx hb dX11_figure_119 (by decide) ?_
        exact k_iret rfl C hW dX11_figure_124 ⟨rfl, hq⟩
    · have hq := hq.2 (fun z => c11 ((lg_cmp_le _ _).mpr z))
      refine lv_bipush (v := (-2)) hx hb dX11_figure_107 (by decide) ?_
      exact k_iret rfl C hW dX11_figure_109 ⟨rfl, hq⟩
  · have hq := hq.2 c10
    refine lv_lload hx hb dX11_figure_59 (lv_at hl 4 rfl) ?_
    refine lv_lconst (v := 0) hx hb dX11_figure_61 (by decide) ?_
    refine W.lcmp hx hb dX11_figure_62 ?_
    refine lv_if_le (tgt := 72) hx hb dX11_figure_63 (by decide) (fun c13 => ?_) (fun c13 => ?_)
    · have hq := hq.1 ((lg_cmp_le _ _).mp c13)
      exact k_X11_figure_72 C hK hX52 hW (lv_sub hl [0, 1, 2, 3, 4, 5] rfl) hq
    · have hq := hq.2 (fun z => c13 ((lg_cmp_le _ _).mpr z))
      refine lv_iload hx hb dX11_figure_66 (lv_at hl 5 rfl) ?_
      refine lv_iconst (v := 1) hx hb dX11_figure_68 (by decide) ?_
      refine lv_iadd hx hb dX11_figure_69 ?_
      refine lv_topi (fun x5_14 ex5_14 => ?_)
      have hq := hq x5_14 ex5_14
      refine lv_istore (lv' := [(5, .int x5_14), (3, .int x3), (4, .int x4), (6, .int x6), (7, .long x7), (9, .int x9)]) hx hb dX11_figure_70 hl (by decide) rfl (fun ls hl => ?_)
      exact k_X11_figure_72 C hK hX52 hW (lv_sub hl [1, 2, 0, 3, 4, 5] rfl) hq
theorem k_X11_figure_52 {Q : Int32 → Prop} {x3 : Int32} {x4 : Int32} {h : hp} (C : kC p s m args meth c cX11_figure 10 (some .int) RX11 wUX11_figure) (hK : kK G s) {x5 : Int32} {x6 : Int32} {x7 : Int64} {x9 : Int32} {H : Heap} {locs : List Loc} {ls : Array Slot} (hW : kW SC G h (aS SC G) s H locs) (hl : lv_has ls 10 [(3, .int x3), (4, .int x4), (5, .int x5), (6, .int x6), (7, .long x7), (9, .int x9)]) (hq : w_X11_figure_52 Q x3 x4 x5 x6 x7 x9) : W p l e rmX11_figure s m args below meth c H locs 0 0 (MQ below (va_Qi (fun r9 h9 => h9 = h ∧ Q r9) (kB SC G) (aS SC G)) args s 0 0 (aS SC G)) (F0 m 52 ls []) := by
  have key := hq (fun (q : Int32 × Int32 × Int64 × Int32) => ∀ (H : Heap) (locs : List Loc) (ls : Array Slot), kW SC G h (aS SC G) s H locs → lv_has ls 10 [(3, .int x3), (4, .int x4), (5, .int q.1), (6, .int q.2.1), (7, .long q.2.2.1), (9, .int q.2.2.2)] → W p l e rmX11_figure s m args below meth c H locs 0 0 (MQ below (va_Qi (fun r9 h9 => h9 = h ∧ Q r9) (kB SC G) (aS SC G)) args s 0 0 (aS SC G)) (F0 m 52 ls []))
    (fun q hq H locs ls hW hl => k_X11_figure_b52 C hK (fun x5 x6 x7 x9 H locs ls hW hl hI => hI H locs ls hW hl) hW hl hq)
  exact key _ _ _ hW hl
theorem k_X11_figure_0 {Q : Int32 → Prop} {x1 : Int64} {x3 : Int32} {x4 : Int32} {h : hp} (C : kC p s m args meth c cX11_figure 10 (some .int) RX11 wUX11_figure) (hK : kK G s) {H : Heap} {locs : List Loc} {ls : Array Slot} (hW : kW SC G h (aS SC G) s H locs) (hl : lv_has ls 10 [(0, .ref (G.2.2 0)), (1, .long x1), (3, .int x3), (4, .int x4)]) (hq : w_X11_figure_0 Q x1 x3 x4) : W p l e rmX11_figure s m args below meth c H locs 0 0 (MQ below (va_Qi (fun r9 h9 => h9 = h ∧ Q r9) (kB SC G) (aS SC G)) args s 0 0 (aS SC G)) (F0 m 0 ls []) := by
  have hx := C.1
  have hb := C.2.1
  unfold w_X11_figure_0 at hq
  refine lv_lload_n hx hb dX11_figure_0 rfl (lv_at hl 1 rfl) ?_
  refine lv_lconst (v := 0) hx hb dX11_figure_1 (by decide) ?_
  refine lv_ldc2 (v := 1000000000000000000) hx hb C.2.2.2.2.1 (C.2.2.2.2.2.1 _ (List.mem_cons_of_mem _ mw834)) dX11_figure_2 ?_
  refine k_ci hW (va_runS (As := [.long x1, .long 0, .long 1000000000000000000]) (rest := []) (k_fix C) (c_X11_within l G h x1 0 1000000000000000000 _ hq) (va_cwS 3 C.2.2.2.2.2.1 (gU_S mw780 mw446 mw2 mw447) rfl rfl rfl (by decide +kernel) ⟨Nat.le_of_ble_eq_true rfl, Nat.le_of_ble_eq_true rfl⟩) (k_preS hK hW) rfl rfl hl.1 rfl (lv_room (Nat.le_of_ble_eq_true rfl)) dX11_figure_5 ⟨Nat.le_refl 0, Nat.le_refl 0⟩) (fun r1 h2 H locs hq hW => ?_)
  rw [hq.1] at hW
  have hq := hq.2
  refine lv_if_eq (tgt := 38) hx hb dX11_figure_8 (by decide) (fun c3 => ?_) (fun c3 => ?_)
  · have hq := hq.1 c3
    refine lv_iconst (v := (-1)) hx hb dX11_figure_38 (by decide) ?_
    exact k_iret rfl C hW dX11_figure_39 ⟨rfl, hq⟩
  · have hq := hq.2 c3
    refine lv_iload_n hx hb dX11_figure_11 rfl (lv_at hl 2 rfl) ?_
    refine lv_i2l (v := x3.toInt64) hx hb dX11_figure_12 rfl ?_
    refine lv_ldc2 (v := 2) hx hb C.2.2.2.2.1 (C.2.2.2.2.2.1 _ (List.mem_cons_of_mem _ mw835)) dX11_figure_13 ?_
    refine lv_ldc2 (v := 9999) hx hb C.2.2.2.2.1 (C.2.2.2.2.2.1 _ (List.mem_cons_of_mem _ mw836)) dX11_figure_16 ?_
    refine k_ci hW (va_runS (As := [.long (x3.toInt64), .long 2, .long 9999]) (rest := []) (k_fix C) (c_X11_within l G h (x3.toInt64) 2 9999 _ hq) (va_cwS 3 C.2.2.2.2.2.1 (gU_S mw780 mw446 mw2 mw447) rfl rfl rfl (by decide +kernel) ⟨Nat.le_of_ble_eq_true rfl, Nat.le_of_ble_eq_true rfl⟩) (k_preS hK hW) rfl rfl hl.1 rfl (lv_room (Nat.le_of_ble_eq_true rfl)) dX11_figure_19 ⟨Nat.le_refl 0, Nat.le_refl 0⟩) (fun r4 h5 H locs hq hW => ?_)
    rw [hq.1] at hW
    have hq := hq.2
    refine lv_if_eq (tgt := 38) hx hb dX11_figure_22 (by decide) (fun c6 => ?_) (fun c6 => ?_)
    · have hq := hq.1 c6
      refine lv_iconst (v := (-1)) hx hb dX11_figure_38 (by decide) ?_
      exact k_iret rfl C hW dX11_figure_39 ⟨rfl, hq⟩
    · have hq := hq.2 c6
      refine lv_iload hx hb dX11_figure_25 (lv_at hl 3 rfl) ?_
      refine lv_i2l (v := x4.toInt64) hx hb dX11_figure_27 rfl ?_
      refine lv_lconst (v := 0) hx hb dX11_figure_28 (by decide) ?_
      refine lv_ldc2 (v := 6) hx hb C.2.2.2.2.1 (C.2.2.2.2.2.1 _ (List.mem_cons_of_mem _ mw837)) dX11_figure_29 ?_
      refine k_ci hW (va_runS (As := [.long (x4.toInt64), .long 0, .long 6]) (rest := []) (k_fix C) (c_X11_within l G h (x4.toInt64) 0 6 _ hq) (va_cwS 3 C.2.2.2.2.2.1 (gU_S mw780 mw446 mw2 mw447) rfl rfl rfl (by decide +kernel) ⟨Nat.le_of_ble_eq_true rfl, Nat.le_of_ble_eq_true rfl⟩) (k_preS hK hW) rfl rfl hl.1 rfl (lv_room (Nat.le_of_ble_eq_true rfl)) dX11_figure_32 ⟨Nat.le_refl 0, Nat.le_refl 0⟩) (fun r7 h8 H locs hq hW => ?_)
      rw [hq.1] at hW
      have hq := hq.2
      refine lv_if_ne (tgt := 40) hx hb dX11_figure_35 (by decide) (fun c9 => ?_) (fun c9 => ?_)
      · have hq := hq.1 c9
        refine lv_iconst (v := 1) hx hb dX11_figure_40 (by decide) ?_
        refine lv_istore (lv' := [(5, .int 1), (0, .ref (G.2.2 0)), (1, .long x1), (3, .int x3), (4, .int x4)]) hx hb dX11_figure_41 hl (by decide) rfl (fun ls hl => ?_)
        refine lv_iconst (v := 0) hx hb dX11_figure_43 (by decide) ?_
        refine lv_istore (lv' := [(6, .int 0), (5, .int 1), (0, .ref (G.2.2 0)), (1, .long x1), (3, .int x3), (4, .int x4)]) hx hb dX11_figure_44 hl (by decide) rfl (fun ls hl => ?_)
        refine lv_lload_n hx hb dX11_figure_46 rfl (lv_at hl 3 rfl) ?_
        refine lv_lstore (lv' := [(7, .long x1), (6, .int 0), (5, .int 1), (0, .ref (G.2.2 0)), (1, .long x1), (3, .int x3), (4, .int x4)]) hx hb dX11_figure_47 hl (by decide) rfl (fun ls hl => ?_)
        refine lv_iconst (v := 0) hx hb dX11_figure_49 (by decide) ?_
        refine lv_istore (lv' := [(9, .int 0), (7, .long x1), (6, .int 0), (5, .int 1), (0, .ref (G.2.2 0)), (1, .long x1), (3, .int x3), (4, .int x4)]) hx hb dX11_figure_50 hl (by decide) rfl (fun ls hl => ?_)
        exact k_X11_figure_52 C hK hW (lv_sub hl [6, 7, 3, 2, 1, 0] rfl) hq
      · have hq := hq.2 c9
        refine lv_iconst (v := (-1)) hx hb dX11_figure_38 (by decide) ?_
        exact k_iret rfl C hW dX11_figure_39 ⟨rfl, hq⟩
theorem c_X11_figure (l : Launch) (G : wG) (h : hp) (x1 : Int64) (x3 : Int32) (x4 : Int32) (Q : Int32 → Prop) (hq : w_X11_figure x1 x3 x4 Q) : ctI l SC G yX11_figure wUX11_figure rmX11_figure h [.ref (G.2.2 0), .long x1, .int x3, .int x4] (fun r9 h9 => h9 = h ∧ Q r9) := by
  refine k_start (cc := cX11_figure) (maxL := 10) (rt := (some .int)) (own := RX11) (by decide +kernel) rfl rfl (Nat.le_of_ble_eq_true rfl) ?_
  intro p e s m below meth c ls C hK hW hl
  exact k_X11_figure_0 C hK hW hl hq
theorem k_X11_meets_b13 {Q : Int32 → Prop} {X13 : Int32 → Prop} {x1 : Int32} {x2 : Int32} {h : hp} (C : kC p s m args meth c cX11_meets 4 (some .int) RX11 wUX11_meets) (hK : kK G s) (hX13 : ∀ (x3 : Int32) (H : Heap) (locs : List Loc) (ls : Array Slot), kW SC G h (aS SC G) s H locs → lv_has ls 4 [(0, .ref (G.2.2 0)), (1, .int x1), (2, .int x2), (3, .int x3)] → X13 x3 → W p l e rmX11_meets s m args below meth c H locs 0 0 (MQ below (va_Qi (fun r9 h9 => h9 = h ∧ Q r9) (kB SC G) (aS SC G)) args s 0 0 (aS SC G)) (F0 m 13 ls [])) {x3 : Int32} {H : Heap} {locs : List Loc} {ls : Array Slot} (hW : kW SC G h (aS SC G) s H locs) (hl : lv_has ls 4 [(0, .ref (G.2.2 0)), (1, .int x1), (2, .int x2), (3, .int x3)]) (hq : w_X11_meets_b13 Q x1 x2 h X13 x3) : W p l e rmX11_meets s m args below meth c H locs 0 0 (MQ below (va_Qi (fun r9 h9 => h9 = h ∧ Q r9) (kB SC G) (aS SC G)) args s 0 0 (aS SC G)) (F0 m 13 ls []) := by
  have hx := C.1
  have hb := C.2.1
  unfold w_X11_meets_b13 at hq
  refine lv_iload_n hx hb dX11_meets_13 rfl (lv_at hl 3 rfl) ?_
  refine lv_sipush (v := 999) hx hb dX11_meets_14 (by decide) ?_
  refine lv_icmp_gt (tgt := 52) hx hb dX11_meets_17 (by decide) (fun c4 => ?_) (fun c4 => ?_)
  · have hq := hq.1 c4
    refine lv_bipush (v := (-2)) hx hb dX11_meets_52 (by decide) ?_
    exact k_iret rfl C hW dX11_meets_54 ⟨rfl, hq⟩
  · have hq := hq.2 c4
    refine lv_aload_n hx hb dX11_meets_20 rfl (lv_at hl 0 rfl) ?_
    refine gt11_4 C hK hW (rfl : shC 0 = 11) (List.mem_cons_of_mem _ mw24) (fun _ h9 => List.mem_cons_of_mem _ (inU_wsX110 _ h9)) dX11_meets_21 ?_
    have hr5 := hq.1
    have hq := hq.2
    refine lv_iload_n hx hb dX11_meets_24 rfl (lv_at hl 1 rfl) ?_
    refine lv_iload_n hx hb dX11_meets_25 rfl (lv_at hl 3 rfl) ?_
    refine lv_i2l (v := x3.toInt64) hx hb dX11_meets_26 rfl ?_
    refine k_cl hW (va_runV (As := [.int x1, .long (x3.toInt64)]) (rest := []) (k_fix C) (c_X7_comesTo l G hr5 h x1 (x3.toInt64) _ hq) (cwV 2 C.2.2.2.2.2.1 (gU_V mw781 mw782 mw783 mw23 mw784) rfl rfl rfl (by decide +kernel) ⟨Nat.le_of_ble_eq_true rfl, Nat.le_of_ble_eq_true rfl⟩) (k_preV hK hW (shC_lt hr5 (by decide)) (ceC_7 hr5) (q := (RX7, TX7, 10)) rfl) rfl rfl hl.1 rfl (lv_room (Nat.le_of_ble_eq_true rfl)) dX11_meets_27 ⟨Nat.le_refl 0, Nat.le_refl 0⟩) (fun r6 h7 H locs hq hW => ?_)
    rw [hq.1] at hW
    have hq := hq.2
    refine lv_aload_n hx hb dX11_meets_30 rfl (lv_at hl 0 rfl) ?_
    refine gt11_4 C hK hW (rfl : shC 0 = 11) (List.mem_cons_of_mem _ mw24) (fun _ h9 => List.mem_cons_of_mem _ (inU_wsX110 _ h9)) dX11_meets_31 ?_
    have hr8 := hq.1
    have hq := hq.2
    refine lv_iload_n hx hb dX11_meets_34 rfl (lv_at hl 2 rfl) ?_
    refine lv_iload_n hx hb dX11_meets_35 rfl (lv_at hl 3 rfl) ?_
    refine lv_i2l (v := x3.toInt64) hx hb dX11_meets_36 rfl ?_
    refine k_cl hW (va_runV (As := [.int x2, .long (x3.toInt64)]) (rest := [.long r6]) (k_fix C) (c_X7_comesTo l G hr8 h x2 (x3.toInt64) _ hq) (cwV 2 C.2.2.2.2.2.1 (gU_V mw781 mw782 mw783 mw23 mw784) rfl rfl rfl (by decide +kernel) ⟨Nat.le_of_ble_eq_true rfl, Nat.le_of_ble_eq_true rfl⟩) (k_preV hK hW (shC_lt hr8 (by decide)) (ceC_7 hr8) (q := (RX7, TX7, 10)) rfl) rfl rfl hl.1 rfl (lv_room (Nat.le_of_ble_eq_true rfl)) dX11_meets_37 ⟨Nat.le_refl 0, Nat.le_refl 0⟩) (fun r9 h10 H locs hq hW => ?_)
    rw [hq.1] at hW
    have hq := hq.2
    refine W.lcmp hx hb dX11_meets_40 ?_
    refine lv_if_ne (tgt := 46) hx hb dX11_meets_41 (by decide) (fun c11 => ?_) (fun c11 => ?_)
    · have hq := hq.1 (fun z => c11 ((lg_cmp_eq _ _).mpr z))
      obtain ⟨x3_12, ex3_12⟩ : ∃ y : Int32, y = x3 + 1 := ⟨_, rfl⟩
      have hq := hq x3_12 ex3_12
      refine lv_iinc (v := x3_12) (lv' := [(3, .int x3_12), (0, .ref (G.2.2 0)), (1, .int x1), (2, .int x2)]) hx hb dX11_meets_46 hl (k := 3) rfl (by rw [ex3_12]; rfl) (by decide) rfl (fun ls hl => ?_)
      refine lv_goto (tgt := 13) hx hb dX11_meets_49 (by decide) ?_
      exact hX13 _ _ _ _ hW (lv_sub hl [1, 2, 3, 0] rfl) hq
    · have hq := hq.2 ((lg_cmp_eq _ _).mp c11)
      refine lv_iload_n hx hb dX11_meets_44 rfl (lv_at hl 3 rfl) ?_
      exact k_iret rfl C hW dX11_meets_45 ⟨rfl, hq⟩
theorem k_X11_meets_13 {Q : Int32 → Prop} {x1 : Int32} {x2 : Int32} {h : hp} (C : kC p s m args meth c cX11_meets 4 (some .int) RX11 wUX11_meets) (hK : kK G s) {x3 : Int32} {H : Heap} {locs : List Loc} {ls : Array Slot} (hW : kW SC G h (aS SC G) s H locs) (hl : lv_has ls 4 [(0, .ref (G.2.2 0)), (1, .int x1), (2, .int x2), (3, .int x3)]) (hq : w_X11_meets_13 Q x1 x2 h x3) : W p l e rmX11_meets s m args below meth c H locs 0 0 (MQ below (va_Qi (fun r9 h9 => h9 = h ∧ Q r9) (kB SC G) (aS SC G)) args s 0 0 (aS SC G)) (F0 m 13 ls []) := by
  have key := hq (fun (q : Int32) => ∀ (H : Heap) (locs : List Loc) (ls : Array Slot), kW SC G h (aS SC G) s H locs → lv_has ls 4 [(0, .ref (G.2.2 0)), (1, .int x1), (2, .int x2), (3, .int q)] → W p l e rmX11_meets s m args below meth c H locs 0 0 (MQ below (va_Qi (fun r9 h9 => h9 = h ∧ Q r9) (kB SC G) (aS SC G)) args s 0 0 (aS SC G)) (F0 m 13 ls []))
    (fun q hq H locs ls hW hl => k_X11_meets_b13 C hK (fun x3 H locs ls hW hl hI => hI H locs ls hW hl) hW hl hq)
  exact key _ _ _ hW hl
theorem k_X11_meets_0 {Q : Int32 → Prop} {x1 : Int32} {x2 : Int32} {h : hp} (C : kC p s m args meth c cX11_meets 4 (some .int) RX11 wUX11_meets) (hK : kK G s) {H : Heap} {locs : List Loc} {ls : Array Slot} (hW : kW SC G h (aS SC G) s H locs) (hl : lv_has ls 4 [(0, .ref (G.2.2 0)), (1, .int x1), (2, .int x2)]) (hq : w_X11_meets_0 Q x1 x2 h) : W p l e rmX11_meets s m args below meth c H locs 0 0 (MQ below (va_Qi (fun r9 h9 => h9 = h ∧ Q r9) (kB SC G) (aS SC G)) args s 0 0 (aS SC G)) (F0 m 0 ls []) := by
  have hx := C.1
  have hb := C.2.1
  unfold w_X11_meets_0 at hq
  refine lv_aload_n hx hb dX11_meets_0 rfl (lv_at hl 0 rfl) ?_
  refine lv_iload_n hx hb dX11_meets_1 rfl (lv_at hl 1 rfl) ?_
  refine lv_iload_n hx hb dX11_meets_2 rfl (lv_at hl 2 rfl) ?_
  refine k_ci hW (va_runV (As := [.int x1, .int x2]) (rest := []) (k_fix C) (c_X11_areTwoRows l G h x1 x2 _ hq) (cwV 2 C.2.2.2.2.2.1 (gU_V mw1119 mw1120 mw1121 mw2 mw1122) rfl rfl rfl (by decide +kernel) ⟨Nat.le_of_ble_eq_true rfl, Nat.le_of_ble_eq_true rfl⟩) (k_preV hK hW (shC_lt (rfl : shC 0 = 11) (by decide)) (ceC_11 (rfl : shC 0 = 11)) (q := (RX11, TX11, 11)) rfl) rfl rfl hl.1 rfl (lv_room (Nat.le_of_ble_eq_true rfl)) dX11_meets_3 ⟨Nat.le_refl 0, Nat.le_refl 0⟩) (fun r1 h2 H locs hq hW => ?_)
  rw [hq.1] at hW
  have hq := hq.2
  refine lv_if_ne (tgt := 11) hx hb dX11_meets_6 (by decide) (fun c3 => ?_) (fun c3 => ?_)
  · have hq := hq.1 c3
    refine lv_iconst (v := 0) hx hb dX11_meets_11 (by decide) ?_
    refine lv_istore_n (lv' := [(3, .int 0), (0, .ref (G.2.2 0)), (1, .int x1), (2, .int x2)]) hx hb dX11_meets_12 rfl hl (by decide) rfl (fun ls hl => ?_)
    exact k_X11_meets_13 C hK hW (lv_sub hl [1, 2, 3, 0] rfl) hq
  · have hq := hq.2 c3
    refine lv_iconst (v := (-1)) hx hb dX11_meets_9 (by decide) ?_
    exact k_iret rfl C hW dX11_meets_10 ⟨rfl, hq⟩
theorem c_X11_meets (l : Launch) (G : wG) (h : hp) (x1 : Int32) (x2 : Int32) (Q : Int32 → Prop) (hq : w_X11_meets h x1 x2 Q) : ctI l SC G yX11_meets wUX11_meets rmX11_meets h [.ref (G.2.2 0), .int x1, .int x2] (fun r9 h9 => h9 = h ∧ Q r9) := by
  refine k_start (cc := cX11_meets) (maxL := 4) (rt := (some .int)) (own := RX11) (by decide +kernel) rfl rfl (Nat.le_of_ble_eq_true rfl) ?_
  intro p e s m below meth c ls C hK hW hl
  exact k_X11_meets_0 C hK hW hl hq
theorem k_X11_degree_b22 {Q : Int32 → Prop} {X22 : Int32 → Prop} {x1 : Int32} {h : hp} (C : kC p s m args meth c cX11_degree 3 (some .int) RX11 wUX11_degree) (hK : kK G s) (hX22 : ∀ (x2 : Int32) (H : Heap) (locs : List Loc) (ls : Array Slot), kW SC G h (aS SC G) s H locs → lv_has ls 3 [(0, .ref (G.2.2 0)), (1, .int x1), (2, .int x2)] → X22 x2 → W p l e rmX11_degree s m args below meth c H locs 0 0 (MQ below (va_Qi (fun r9 h9 => h9 = h ∧ Q r9) (kB SC G) (aS SC G)) args s 0 0 (aS SC G)) (F0 m 22 ls [])) {x2 : Int32} {H : Heap} {locs : List Loc} {ls : Array Slot} (hW : kW SC G h (aS SC G) s H locs) (hl : lv_has ls 3 [(0, .ref (G.2.2 0)), (1, .int x1), (2, .int x2)]) (hq : w_X11_degree_b22 Q x1 h X22 x2) : W p l e rmX11_degree s m args below meth c H locs 0 0 (MQ below (va_Qi (fun r9 h9 => h9 = h ∧ Q r9) (kB SC G) (aS SC G)) args s 0 0 (aS SC G)) (F0 m 22 ls []) := by
  have hx := C.1
  have hb := C.2.1
  unfold w_X11_degree_b22 at hq
  refine lv_iload_n hx hb dX11_degree_22 rfl (lv_at hl 2 rfl) ?_
  refine lv_if_lt (tgt := 46) hx hb dX11_degree_23 (by decide) (fun c6 => ?_) (fun c6 => ?_)
  · have hq := hq.1 c6
    refine lv_bipush (v := (-2)) hx hb dX11_degree_46 (by decide) ?_
    exact k_iret rfl C hW dX11_degree_48 ⟨rfl, hq⟩
  · have hq := hq.2 c6
    refine lv_aload_n hx hb dX11_degree_26 rfl (lv_at hl 0 rfl) ?_
    refine gt11_4 C hK hW (rfl : shC 0 = 11) (List.mem_cons_of_mem _ mw24) (fun _ h9 => List.mem_cons_of_mem _ (inU_wsX110 _ h9)) dX11_degree_27 ?_
    have hr7 := hq.1
    have hq := hq.2
    refine lv_iload_n hx hb dX11_degree_30 rfl (lv_at hl 1 rfl) ?_
    refine lv_iload_n hx hb dX11_degree_31 rfl (lv_at hl 2 rfl) ?_
    refine k_ci hW (va_runV (As := [.int x1, .int x2]) (rest := []) (k_fix C) (c_X7_numberAt l G hr7 h x1 x2 _ hq) (cwV 2 C.2.2.2.2.2.1 (gU_V mw750 mw751 mw752 mw23 mw753) rfl rfl rfl (by decide +kernel) ⟨Nat.le_of_ble_eq_true rfl, Nat.le_of_ble_eq_true rfl⟩) (k_preV hK hW (shC_lt hr7 (by decide)) (ceC_7 hr7) (q := (RX7, TX7, 10)) rfl) rfl rfl hl.1 rfl (lv_room (Nat.le_of_ble_eq_true rfl)) dX11_degree_32 ⟨Nat.le_refl 0, Nat.le_refl 0⟩) (fun r8 h9 H locs hq hW => ?_)
    rw [hq.1] at hW
    have hq := hq.2
    refine lv_if_eq (tgt := 40) hx hb dX11_degree_35 (by decide) (fun c10 => ?_) (fun c10 => ?_)
    · have hq := hq.1 c10
      obtain ⟨x2_11, ex2_11⟩ : ∃ y : Int32, y = x2 + (-1) := ⟨_, rfl⟩
      have hq := hq x2_11 ex2_11
      refine lv_iinc (v := x2_11) (lv' := [(2, .int x2_11), (0, .ref (G.2.2 0)), (1, .int x1)]) hx hb dX11_degree_40 hl (k := 2) rfl (by rw [ex2_11]; rfl) (by decide) rfl (fun ls hl => ?_)
      refine lv_goto (tgt := 22) hx hb dX11_degree_43 (by decide) ?_
      exact hX22 _ _ _ _ hW (lv_sub hl [1, 2, 0] rfl) hq
    · have hq := hq.2 c10
      refine lv_iload_n hx hb dX11_degree_38 rfl (lv_at hl 2 rfl) ?_
      exact k_iret rfl C hW dX11_degree_39 ⟨rfl, hq⟩
theorem k_X11_degree_22 {Q : Int32 → Prop} {x1 : Int32} {h : hp} (C : kC p s m args meth c cX11_degree 3 (some .int) RX11 wUX11_degree) (hK : kK G s) {x2 : Int32} {H : Heap} {locs : List Loc} {ls : Array Slot} (hW : kW SC G h (aS SC G) s H locs) (hl : lv_has ls 3 [(0, .ref (G.2.2 0)), (1, .int x1), (2, .int x2)]) (hq : w_X11_degree_22 Q x1 h x2) : W p l e rmX11_degree s m args below meth c H locs 0 0 (MQ below (va_Qi (fun r9 h9 => h9 = h ∧ Q r9) (kB SC G) (aS SC G)) args s 0 0 (aS SC G)) (F0 m 22 ls []) := by
  have key := hq (fun (q : Int32) => ∀ (H : Heap) (locs : List Loc) (ls : Array Slot), kW SC G h (aS SC G) s H locs → lv_has ls 3 [(0, .ref (G.2.2 0)), (1, .int x1), (2, .int q)] → W p l e rmX11_degree s m args below meth c H locs 0 0 (MQ below (va_Qi (fun r9 h9 => h9 = h ∧ Q r9) (kB SC G) (aS SC G)) args s 0 0 (aS SC G)) (F0 m 22 ls []))
    (fun q hq H locs ls hW hl => k_X11_degree_b22 C hK (fun x2 H locs ls hW hl hI => hI H locs ls hW hl) hW hl hq)
  exact key _ _ _ hW hl
theorem k_X11_degree_0 {Q : Int32 → Prop} {x1 : Int32} {h : hp} (C : kC p s m args meth c cX11_degree 3 (some .int) RX11 wUX11_degree) (hK : kK G s) {H : Heap} {locs : List Loc} {ls : Array Slot} (hW : kW SC G h (aS SC G) s H locs) (hl : lv_has ls 3 [(0, .ref (G.2.2 0)), (1, .int x1)]) (hq : w_X11_degree_0 Q x1 h) : W p l e rmX11_degree s m args below meth c H locs 0 0 (MQ below (va_Qi (fun r9 h9 => h9 = h ∧ Q r9) (kB SC G) (aS SC G)) args s 0 0 (aS SC G)) (F0 m 0 ls []) := by
  have hx := C.1
  have hb := C.2.1
  unfold w_X11_degree_0 at hq
  refine lv_aload_n hx hb dX11_degree_0 rfl (lv_at hl 0 rfl) ?_
  refine lv_iload_n hx hb dX11_degree_1 rfl (lv_at hl 1 rfl) ?_
  refine k_ci hW (va_runV (As := [.int x1]) (rest := []) (k_fix C) (c_X11_isRow l G h x1 _ hq) (cwV 1 C.2.2.2.2.2.1 (gU_V mw745 mw746 mw747 mw2 mw748) rfl rfl rfl (by decide +kernel) ⟨Nat.le_of_ble_eq_true rfl, Nat.le_of_ble_eq_true rfl⟩) (k_preV hK hW (shC_lt (rfl : shC 0 = 11) (by decide)) (ceC_11 (rfl : shC 0 = 11)) (q := (RX11, TX11, 11)) rfl) rfl rfl hl.1 rfl (lv_room (Nat.le_of_ble_eq_true rfl)) dX11_degree_2 ⟨Nat.le_refl 0, Nat.le_refl 0⟩) (fun r1 h2 H locs hq hW => ?_)
  rw [hq.1] at hW
  have hq := hq.2
  refine lv_if_ne (tgt := 10) hx hb dX11_degree_5 (by decide) (fun c3 => ?_) (fun c3 => ?_)
  · have hq := hq.1 c3
    refine lv_aload_n hx hb dX11_degree_10 rfl (lv_at hl 0 rfl) ?_
    refine gt11_4 C hK hW (rfl : shC 0 = 11) (List.mem_cons_of_mem _ mw24) (fun _ h9 => List.mem_cons_of_mem _ (inU_wsX110 _ h9)) dX11_degree_11 ?_
    have hr4 := hq.1
    have hq := hq.2
    refine gt7_1 C hK hW hr4 (List.mem_cons_of_mem _ mw744) (fun _ h9 => List.mem_cons_of_mem _ (inU_wsX70 _ h9)) dX11_degree_14 ?_
    refine lv_iload_n hx hb dX11_degree_17 rfl (lv_at hl 1 rfl) ?_
    refine k_iald C hK hW (shC_lt (sl7_1 hr4).1 (by decide)) (ceC_14 (sl7_1 hr4).1 (sl7_1 hr4).2) hq.1 dX11_degree_18 ?_
    have hq := hq.2
    refine lv_iconst (v := 1) hx hb dX11_degree_19 (by decide) ?_
    refine lv_isub hx hb dX11_degree_20 ?_
    refine lv_topi (fun x2_5 ex2_5 => ?_)
    have hq := hq x2_5 ex2_5
    refine lv_istore_n (lv' := [(2, .int x2_5), (0, .ref (G.2.2 0)), (1, .int x1)]) hx hb dX11_degree_21 rfl hl (by decide) rfl (fun ls hl => ?_)
    exact k_X11_degree_22 C hK hW (lv_sub hl [1, 2, 0] rfl) hq
  · have hq := hq.2 c3
    refine lv_iconst (v := (-1)) hx hb dX11_degree_8 (by decide) ?_
    exact k_iret rfl C hW dX11_degree_9 ⟨rfl, hq⟩
theorem c_X11_degree (l : Launch) (G : wG) (h : hp) (x1 : Int32) (Q : Int32 → Prop) (hq : w_X11_degree h x1 Q) : ctI l SC G yX11_degree wUX11_degree rmX11_degree h [.ref (G.2.2 0), .int x1] (fun r9 h9 => h9 = h ∧ Q r9) := by
  refine k_start (cc := cX11_degree) (maxL := 3) (rt := (some .int)) (own := RX11) (by decide +kernel) rfl rfl (Nat.le_of_ble_eq_true rfl) ?_
  intro p e s m below meth c ls C hK hW hl
  exact k_X11_degree_0 C hK hW hl hq
theorem k_X11_rest_0 {Q : Int32 → Prop} {x1 : Int32} {x2 : Int32} {h : hp} (C : kC p s m args meth c cX11_rest 3 (some .int) RX11 wUX11_rest) (hK : kK G s) {H : Heap} {locs : List Loc} {ls : Array Slot} (hW : kW SC G h (aS SC G) s H locs) (hl : lv_has ls 3 [(0, .ref (G.2.2 0)), (1, .int x1), (2, .int x2)]) (hq : w_X11_rest_0 Q x1 x2 h) : W p l e rmX11_rest s m args below meth c H locs 0 0 (MQ below (va_Qi (fun r9 h9 => h9 = h ∧ Q r9) (kB SC G) (aS SC G)) args s 0 0 (aS SC G)) (F0 m 0 ls []) := by
  have hx := C.1
  have hb := C.2.1
  unfold w_X11_rest_0 at hq
  refine lv_aload_n hx hb dX11_rest_0 rfl (lv_at hl 0 rfl) ?_
  refine lv_iload_n hx hb dX11_rest_1 rfl (lv_at hl 1 rfl) ?_
  refine k_ci hW (va_runV (As := [.int x1]) (rest := []) (k_fix C) (c_X11_isRow l G h x1 _ hq) (cwV 1 C.2.2.2.2.2.1 (gU_V mw745 mw746 mw747 mw2 mw748) rfl rfl rfl (by decide +kernel) ⟨Nat.le_of_ble_eq_true rfl, Nat.le_of_ble_eq_true rfl⟩) (k_preV hK hW (shC_lt (rfl : shC 0 = 11) (by decide)) (ceC_11 (rfl : shC 0 = 11)) (q := (RX11, TX11, 11)) rfl) rfl rfl hl.1 rfl (lv_room (Nat.le_of_ble_eq_true rfl)) dX11_rest_2 ⟨Nat.le_refl 0, Nat.le_refl 0⟩) (fun r1 h2 H locs hq hW => ?_)
  rw [hq.1] at hW
  have hq := hq.2
  refine lv_if_eq (tgt := 20) hx hb dX11_rest_5 (by decide) (fun c3 => ?_) (fun c3 => ?_)
  · have hq := hq.1 c3
    refine lv_iconst (v := (-1)) hx hb dX11_rest_20 (by decide) ?_
    exact k_iret rfl C hW dX11_rest_21 ⟨rfl, hq⟩
  · have hq := hq.2 c3
    refine lv_iload_n hx hb dX11_rest_8 rfl (lv_at hl 2 rfl) ?_
    refine lv_i2l (v := x2.toInt64) hx hb dX11_rest_9 rfl ?_
    refine lv_lconst (v := 0) hx hb dX11_rest_10 (by decide) ?_
    refine lv_ldc2 (v := 96) hx hb C.2.2.2.2.1 (C.2.2.2.2.2.1 _ (List.mem_cons_of_mem _ mw1289)) dX11_rest_11 ?_
    refine k_ci hW (va_runS (As := [.long (x2.toInt64), .long 0, .long 96]) (rest := []) (k_fix C) (c_X11_within l G h (x2.toInt64) 0 96 _ hq) (va_cwS 3 C.2.2.2.2.2.1 (gU_S mw780 mw446 mw2 mw447) rfl rfl rfl (by decide +kernel) ⟨Nat.le_of_ble_eq_true rfl, Nat.le_of_ble_eq_true rfl⟩) (k_preS hK hW) rfl rfl hl.1 rfl (lv_room (Nat.le_of_ble_eq_true rfl)) dX11_rest_14 ⟨Nat.le_refl 0, Nat.le_refl 0⟩) (fun r4 h5 H locs hq hW => ?_)
    rw [hq.1] at hW
    have hq := hq.2
    refine lv_if_ne (tgt := 22) hx hb dX11_rest_17 (by decide) (fun c6 => ?_) (fun c6 => ?_)
    · have hq := hq.1 c6
      refine lv_aload_n hx hb dX11_rest_22 rfl (lv_at hl 0 rfl) ?_
      refine gt11_4 C hK hW (rfl : shC 0 = 11) (List.mem_cons_of_mem _ mw24) (fun _ h9 => List.mem_cons_of_mem _ (inU_wsX110 _ h9)) dX11_rest_23 ?_
      have hr7 := hq.1
      have hq := hq.2
      refine gt7_5 C hK hW hr7 (List.mem_cons_of_mem _ mw1224) (fun _ h9 => List.mem_cons_of_mem _ (inU_wsX70 _ h9)) dX11_rest_26 ?_
      refine lv_aload_n hx hb dX11_rest_29 rfl (lv_at hl 0 rfl) ?_
      refine gt11_4 C hK hW (rfl : shC 0 = 11) (List.mem_cons_of_mem _ mw24) (fun _ h9 => List.mem_cons_of_mem _ (inU_wsX110 _ h9)) dX11_rest_30 ?_
      have hr8 := hq.1
      have hq := hq.2
      refine lv_iload_n hx hb dX11_rest_33 rfl (lv_at hl 1 rfl) ?_
      refine lv_iload_n hx hb dX11_rest_34 rfl (lv_at hl 2 rfl) ?_
      refine lv_i2l (v := x2.toInt64) hx hb dX11_rest_35 rfl ?_
      refine k_cl hW (va_runV (As := [.int x1, .long (x2.toInt64)]) (rest := [.ref (G.2.2 ((gR h 0) + 9))]) (k_fix C) (c_X7_comesTo l G hr8 h x1 (x2.toInt64) _ hq) (cwV 2 C.2.2.2.2.2.1 (gU_V mw781 mw782 mw783 mw23 mw784) rfl rfl rfl (by decide +kernel) ⟨Nat.le_of_ble_eq_true rfl, Nat.le_of_ble_eq_true rfl⟩) (k_preV hK hW (shC_lt hr8 (by decide)) (ceC_7 hr8) (q := (RX7, TX7, 10)) rfl) rfl rfl hl.1 rfl (lv_room (Nat.le_of_ble_eq_true rfl)) dX11_rest_36 ⟨Nat.le_refl 0, Nat.le_refl 0⟩) (fun r9 h10 H locs hq hW => ?_)
      rw [hq.1] at hW
      have hq := hq.2
      refine k_ci hW (va_runV (As := [.long r9]) (rest := []) (k_fix C) (c_X6_restOf l G (sl7_5 hr7) h r9 _ hq) (cwV 1 C.2.2.2.2.2.1 (gU_V mw1427 mw1251 mw1252 mw73 mw1253) rfl rfl rfl (by decide +kernel) ⟨Nat.le_of_ble_eq_true rfl, Nat.le_of_ble_eq_true rfl⟩) (k_preV hK hW (shC_lt (sl7_5 hr7) (by decide)) (ceC_6 (sl7_5 hr7)) (q := (RX6, TX6, 7)) rfl) rfl rfl hl.1 rfl (lv_room (Nat.le_of_ble_eq_true rfl)) dX11_rest_39 ⟨Nat.le_refl 0, Nat.le_refl 0⟩) (fun r11 h12 H locs hq hW => ?_)
      rw [hq.1] at hW
      have hq := hq.2
      exact k_iret rfl C hW dX11_rest_42 ⟨rfl, hq⟩
    · have hq := hq.2 c6
      refine lv_iconst (v := (-1)) hx hb dX11_rest_20 (by decide) ?_
      exact k_iret rfl C hW dX11_rest_21 ⟨rfl, hq⟩
theorem c_X11_rest (l : Launch) (G : wG) (h : hp) (x1 : Int32) (x2 : Int32) (Q : Int32 → Prop) (hq : w_X11_rest h x1 x2 Q) : ctI l SC G yX11_rest wUX11_rest rmX11_rest h [.ref (G.2.2 0), .int x1, .int x2] (fun r9 h9 => h9 = h ∧ Q r9) := by
  refine k_start (cc := cX11_rest) (maxL := 3) (rt := (some .int)) (own := RX11) (by decide +kernel) rfl rfl (Nat.le_of_ble_eq_true rfl) ?_
  intro p e s m below meth c ls C hK hW hl
  exact k_X11_rest_0 C hK hW hl hq
theorem k_X11_alike_b16 {Q : Int32 → Prop} {X16 : Int32 × Int32 → Prop} {x1 : Int32} {x2 : Int32} {h : hp} (C : kC p s m args meth c cX11_alike 5 (some .int) RX11 wUX11_alike) (hK : kK G s) (hX16 : ∀ (x3 : Int32) (x4 : Int32) (H : Heap) (locs : List Loc) (ls : Array Slot), kW SC G h (aS SC G) s H locs → lv_has ls 5 [(0, .ref (G.2.2 0)), (1, .int x1), (2, .int x2), (3, .int x3), (4, .int x4)] → X16 (x3, x4) → W p l e rmX11_alike s m args below meth c H locs 0 0 (MQ below (va_Qi (fun r9 h9 => h9 = h ∧ Q r9) (kB SC G) (aS SC G)) args s 0 0 (aS SC G)) (F0 m 16 ls [])) {x3 : Int32} {x4 : Int32} {H : Heap} {locs : List Loc} {ls : Array Slot} (hW : kW SC G h (aS SC G) s H locs) (hl : lv_has ls 5 [(0, .ref (G.2.2 0)), (1, .int x1), (2, .int x2), (3, .int x3), (4, .int x4)]) (hq : w_X11_alike_b16 Q x1 x2 h X16 x3 x4) : W p l e rmX11_alike s m args below meth c H locs 0 0 (MQ below (va_Qi (fun r9 h9 => h9 = h ∧ Q r9) (kB SC G) (aS SC G)) args s 0 0 (aS SC G)) (F0 m 16 ls []) := by
  have hx := C.1
  have hb := C.2.1
  unfold w_X11_alike_b16 at hq
  refine lv_iload hx hb dX11_alike_16 (lv_at hl 4 rfl) ?_
  refine lv_aload_n hx hb dX11_alike_18 rfl (lv_at hl 0 rfl) ?_
  refine gt11_4 C hK hW (rfl : shC 0 = 11) (List.mem_cons_of_mem _ mw24) (fun _ h9 => List.mem_cons_of_mem _ (inU_wsX110 _ h9)) dX11_alike_19 ?_
  have hr4 := hq.1
  have hq := hq.2
  refine gt7_5 C hK hW hr4 (List.mem_cons_of_mem _ mw1224) (fun _ h9 => List.mem_cons_of_mem _ (inU_wsX70 _ h9)) dX11_alike_22 ?_
  refine gt6_1 C hK hW (sl7_5 hr4) (List.mem_cons_of_mem _ mw1440) (fun _ h9 => List.mem_cons_of_mem _ (inU_wsX60 _ h9)) dX11_alike_25 ?_
  refine lv_icmp_ge (tgt := 76) hx hb dX11_alike_28 (by decide) (fun c5 => ?_) (fun c5 => ?_)
  · have hq := hq.1 c5
    refine lv_iload_n hx hb dX11_alike_76 rfl (lv_at hl 3 rfl) ?_
    exact k_iret rfl C hW dX11_alike_77 ⟨rfl, hq⟩
  · have hq := hq.2 c5
    refine lv_aload_n hx hb dX11_alike_31 rfl (lv_at hl 0 rfl) ?_
    refine gt11_4 C hK hW (rfl : shC 0 = 11) (List.mem_cons_of_mem _ mw24) (fun _ h9 => List.mem_cons_of_mem _ (inU_wsX110 _ h9)) dX11_alike_32 ?_
    have hr6 := hq.1
    have hq := hq.2
    refine gt7_5 C hK hW hr6 (List.mem_cons_of_mem _ mw1224) (fun _ h9 => List.mem_cons_of_mem _ (inU_wsX70 _ h9)) dX11_alike_35 ?_
    refine lv_aload_n hx hb dX11_alike_38 rfl (lv_at hl 0 rfl) ?_
    refine gt11_4 C hK hW (rfl : shC 0 = 11) (List.mem_cons_of_mem _ mw24) (fun _ h9 => List.mem_cons_of_mem _ (inU_wsX110 _ h9)) dX11_alike_39 ?_
    have hr7 := hq.1
    have hq := hq.2
    refine lv_iload_n hx hb dX11_alike_42 rfl (lv_at hl 1 rfl) ?_
    refine lv_iload hx hb dX11_alike_43 (lv_at hl 4 rfl) ?_
    refine lv_i2l (v := x4.toInt64) hx hb dX11_alike_45 rfl ?_
    refine k_cl hW (va_runV (As := [.int x1, .long (x4.toInt64)]) (rest := [.ref (G.2.2 ((gR h 0) + 9))]) (k_fix C) (c_X7_comesTo l G hr7 h x1 (x4.toInt64) _ hq) (cwV 2 C.2.2.2.2.2.1 (gU_V mw781 mw782 mw783 mw23 mw784) rfl rfl rfl (by decide +kernel) ⟨Nat.le_of_ble_eq_true rfl, Nat.le_of_ble_eq_true rfl⟩) (k_preV hK hW (shC_lt hr7 (by decide)) (ceC_7 hr7) (q := (RX7, TX7, 10)) rfl) rfl rfl hl.1 rfl (lv_room (Nat.le_of_ble_eq_true rfl)) dX11_alike_46 ⟨Nat.le_refl 0, Nat.le_refl 0⟩) (fun r8 h9 H locs hq hW => ?_)
    rw [hq.1] at hW
    have hq := hq.2
    refine lv_aload_n hx hb dX11_alike_49 rfl (lv_at hl 0 rfl) ?_
    refine gt11_4 C hK hW (rfl : shC 0 = 11) (List.mem_cons_of_mem _ mw24) (fun _ h9 => List.mem_cons_of_mem _ (inU_wsX110 _ h9)) dX11_alike_50 ?_
    have hr10 := hq.1
    have hq := hq.2
    refine lv_iload_n hx hb dX11_alike_53 rfl (lv_at hl 2 rfl) ?_
    refine lv_iload hx hb dX11_alike_54 (lv_at hl 4 rfl) ?_
    refine lv_i2l (v := x4.toInt64) hx hb dX11_alike_56 rfl ?_
    refine k_cl hW (va_runV (As := [.int x2, .long (x4.toInt64)]) (rest := [.long r8, .ref (G.2.2 ((gR h 0) + 9))]) (k_fix C) (c_X7_comesTo l G hr10 h x2 (x4.toInt64) _ hq) (cwV 2 C.2.2.2.2.2.1 (gU_V mw781 mw782 mw783 mw23 mw784) rfl rfl rfl (by decide +kernel) ⟨Nat.le_of_ble_eq_true rfl, Nat.le_of_ble_eq_true rfl⟩) (k_preV hK hW (shC_lt hr10 (by decide)) (ceC_7 hr10) (q := (RX7, TX7, 10)) rfl) rfl rfl hl.1 rfl (lv_room (Nat.le_of_ble_eq_true rfl)) dX11_alike_57 ⟨Nat.le_refl 0, Nat.le_refl 0⟩) (fun r11 h12 H locs hq hW => ?_)
    rw [hq.1] at hW
    have hq := hq.2
    refine lv_lsub hx hb dX11_alike_60 ?_
    refine k_ci hW (va_runV (As := [.long (r8 - r11)]) (rest := []) (k_fix C) (c_X6_restOf l G (sl7_5 hr6) h (r8 - r11) _ hq) (cwV 1 C.2.2.2.2.2.1 (gU_V mw1427 mw1251 mw1252 mw73 mw1253) rfl rfl rfl (by decide +kernel) ⟨Nat.le_of_ble_eq_true rfl, Nat.le_of_ble_eq_true rfl⟩) (k_preV hK hW (shC_lt (sl7_5 hr6) (by decide)) (ceC_6 (sl7_5 hr6)) (q := (RX6, TX6, 7)) rfl) rfl rfl hl.1 rfl (lv_room (Nat.le_of_ble_eq_true rfl)) dX11_alike_61 ⟨Nat.le_refl 0, Nat.le_refl 0⟩) (fun r13 h14 H locs hq hW => ?_)
    rw [hq.1] at hW
    have hq := hq.2
    refine lv_if_ne (tgt := 70) hx hb dX11_alike_64 (by decide) (fun c15 => ?_) (fun c15 => ?_)
    · have hq := hq.1 c15
      obtain ⟨x4_16, ex4_16⟩ : ∃ y : Int32, y = x4 + 1 := ⟨_, rfl⟩
      have hq := hq x4_16 ex4_16
      refine lv_iinc (v := x4_16) (lv' := [(4, .int x4_16), (0, .ref (G.2.2 0)), (1, .int x1), (2, .int x2), (3, .int x3)]) hx hb dX11_alike_70 hl (k := 4) rfl (by rw [ex4_16]; rfl) (by decide) rfl (fun ls hl => ?_)
      refine lv_goto (tgt := 16) hx hb dX11_alike_73 (by decide) ?_
      exact hX16 _ _ _ _ _ hW (lv_sub hl [1, 2, 3, 4, 0] rfl) hq
    · have hq := hq.2 c15
      obtain ⟨x3_17, ex3_17⟩ : ∃ y : Int32, y = x3 + 1 := ⟨_, rfl⟩
      have hq := hq x3_17 ex3_17
      refine lv_iinc (v := x3_17) (lv' := [(3, .int x3_17), (0, .ref (G.2.2 0)), (1, .int x1), (2, .int x2), (4, .int x4)]) hx hb dX11_alike_67 hl (k := 3) rfl (by rw [ex3_17]; rfl) (by decide) rfl (fun ls hl => ?_)
      obtain ⟨x4_18, ex4_18⟩ : ∃ y : Int32, y = x4 + 1 := ⟨_, rfl⟩
      have hq := hq x4_18 ex4_18
      refine lv_iinc (v := x4_18) (lv' := [(4, .int x4_18), (3, .int x3_17), (0, .ref (G.2.2 0)), (1, .int x1), (2, .int x2)]) hx hb dX11_alike_70 hl (k := 4) rfl (by rw [ex4_18]; rfl) (by decide) rfl (fun ls hl => ?_)
      refine lv_goto (tgt := 16) hx hb dX11_alike_73 (by decide) ?_
      exact hX16 _ _ _ _ _ hW (lv_sub hl [2, 3, 4, 1, 0] rfl) hq
theorem k_X11_alike_16 {Q : Int32 → Prop} {x1 : Int32} {x2 : Int32} {h : hp} (C : kC p s m args meth c cX11_alike 5 (some .int) RX11 wUX11_alike) (hK : kK G s) {x3 : Int32} {x4 : Int32} {H : Heap} {locs : List Loc} {ls : Array Slot} (hW : kW SC G h (aS SC G) s H locs) (hl : lv_has ls 5 [(0, .ref (G.2.2 0)), (1, .int x1), (2, .int x2), (3, .int x3), (4, .int x4)]) (hq : w_X11_alike_16 Q x1 x2 h x3 x4) : W p l e rmX11_alike s m args below meth c H locs 0 0 (MQ below (va_Qi (fun r9 h9 => h9 = h ∧ Q r9) (kB SC G) (aS SC G)) args s 0 0 (aS SC G)) (F0 m 16 ls []) := by
  have key := hq (fun (q : Int32 × Int32) => ∀ (H : Heap) (locs : List Loc) (ls : Array Slot), kW SC G h (aS SC G) s H locs → lv_has ls 5 [(0, .ref (G.2.2 0)), (1, .int x1), (2, .int x2), (3, .int q.1), (4, .int q.2)] → W p l e rmX11_alike s m args below meth c H locs 0 0 (MQ below (va_Qi (fun r9 h9 => h9 = h ∧ Q r9) (kB SC G) (aS SC G)) args s 0 0 (aS SC G)) (F0 m 16 ls []))
    (fun q hq H locs ls hW hl => k_X11_alike_b16 C hK (fun x3 x4 H locs ls hW hl hI => hI H locs ls hW hl) hW hl hq)
  exact key _ _ _ hW hl
theorem k_X11_alike_0 {Q : Int32 → Prop} {x1 : Int32} {x2 : Int32} {h : hp} (C : kC p s m args meth c cX11_alike 5 (some .int) RX11 wUX11_alike) (hK : kK G s) {H : Heap} {locs : List Loc} {ls : Array Slot} (hW : kW SC G h (aS SC G) s H locs) (hl : lv_has ls 5 [(0, .ref (G.2.2 0)), (1, .int x1), (2, .int x2)]) (hq : w_X11_alike_0 Q x1 x2 h) : W p l e rmX11_alike s m args below meth c H locs 0 0 (MQ below (va_Qi (fun r9 h9 => h9 = h ∧ Q r9) (kB SC G) (aS SC G)) args s 0 0 (aS SC G)) (F0 m 0 ls []) := by
  have hx := C.1
  have hb := C.2.1
  unfold w_X11_alike_0 at hq
  refine lv_aload_n hx hb dX11_alike_0 rfl (lv_at hl 0 rfl) ?_
  refine lv_iload_n hx hb dX11_alike_1 rfl (lv_at hl 1 rfl) ?_
  refine lv_iload_n hx hb dX11_alike_2 rfl (lv_at hl 2 rfl) ?_
  refine k_ci hW (va_runV (As := [.int x1, .int x2]) (rest := []) (k_fix C) (c_X11_areTwoRows l G h x1 x2 _ hq) (cwV 2 C.2.2.2.2.2.1 (gU_V mw1119 mw1120 mw1121 mw2 mw1122) rfl rfl rfl (by decide +kernel) ⟨Nat.le_of_ble_eq_true rfl, Nat.le_of_ble_eq_true rfl⟩) (k_preV hK hW (shC_lt (rfl : shC 0 = 11) (by decide)) (ceC_11 (rfl : shC 0 = 11)) (q := (RX11, TX11, 11)) rfl) rfl rfl hl.1 rfl (lv_room (Nat.le_of_ble_eq_true rfl)) dX11_alike_3 ⟨Nat.le_refl 0, Nat.le_refl 0⟩) (fun r1 h2 H locs hq hW => ?_)
  rw [hq.1] at hW
  have hq := hq.2
  refine lv_if_ne (tgt := 11) hx hb dX11_alike_6 (by decide) (fun c3 => ?_) (fun c3 => ?_)
  · have hq := hq.1 c3
    refine lv_iconst (v := 0) hx hb dX11_alike_11 (by decide) ?_
    refine lv_istore_n (lv' := [(3, .int 0), (0, .ref (G.2.2 0)), (1, .int x1), (2, .int x2)]) hx hb dX11_alike_12 rfl hl (by decide) rfl (fun ls hl => ?_)
    refine lv_iconst (v := 0) hx hb dX11_alike_13 (by decide) ?_
    refine lv_istore (lv' := [(4, .int 0), (3, .int 0), (0, .ref (G.2.2 0)), (1, .int x1), (2, .int x2)]) hx hb dX11_alike_14 hl (by decide) rfl (fun ls hl => ?_)
    exact k_X11_alike_16 C hK hW (lv_sub hl [2, 3, 4, 1, 0] rfl) hq
  · have hq := hq.2 c3
    refine lv_iconst (v := (-1)) hx hb dX11_alike_9 (by decide) ?_
    exact k_iret rfl C hW dX11_alike_10 ⟨rfl, hq⟩
theorem c_X11_alike (l : Launch) (G : wG) (h : hp) (x1 : Int32) (x2 : Int32) (Q : Int32 → Prop) (hq : w_X11_alike h x1 x2 Q) : ctI l SC G yX11_alike wUX11_alike rmX11_alike h [.ref (G.2.2 0), .int x1, .int x2] (fun r9 h9 => h9 = h ∧ Q r9) := by
  refine k_start (cc := cX11_alike) (maxL := 5) (rt := (some .int)) (own := RX11) (by decide +kernel) rfl rfl (Nat.le_of_ble_eq_true rfl) ?_
  intro p e s m below meth c ls C hK hW hl
  exact k_X11_alike_0 C hK hW hl hq
end LINKS
