section LINKS
variable {p : Program} {l : Launch} {e : Env} {s : State} {m : MethodId} {args : Array Value} {below : List Frame} {meth : Method} {c : Code} {G : wG}
theorem k_X11_isSumPlace_0 {Q : Int32 → Prop} {x1 : Int32} {x2 : Int32} {x3 : Int32} {h : hp} (C : kC p s m args meth c cX11_isSumPlace 4 (some .boolean) RX11 wUX11_isSumPlace) (hK : kK G s) {H : Heap} {locs : List Loc} {ls : Array Slot} (hW : kW SC G h (aS SC G) s H locs) (hl : lv_has ls 4 [(0, .ref (G.2.2 0)), (1, .int x1), (2, .int x2), (3, .int x3)]) (hq : w_X11_isSumPlace_0 Q x1 x2 x3 h) : W p l e rmX11_isSumPlace s m args below meth c H locs 0 0 (MQ below (va_Qi (fun r9 h9 => h9 = h ∧ Q r9) (kB SC G) (aS SC G)) args s 0 0 (aS SC G)) (F0 m 0 ls []) := by
  have hx := C.1
  have hb := C.2.1
  unfold w_X11_isSumPlace_0 at hq
  refine lv_aload_n hx hb dX11_isSumPlace_0 rfl (lv_at hl 0 rfl) ?_
  refine lv_iload_n hx hb dX11_isSumPlace_1 rfl (lv_at hl 1 rfl) ?_
  refine k_ci hW (va_runV (As := [.int x1]) (rest := []) (k_fix C) (c_X11_isRow l G h x1 _ hq) (cwV 1 C.2.2.2.2.2.1 (gU_V mw745 mw746 mw747 mw2 mw748) rfl rfl rfl (by decide +kernel) ⟨Nat.le_of_ble_eq_true rfl, Nat.le_of_ble_eq_true rfl⟩) (k_preV hK hW (shC_lt (rfl : shC 0 = 11) (by decide)) (ceC_11 (rfl : shC 0 = 11)) (q := (RX11, TX11, 11)) rfl) rfl rfl hl.1 rfl (lv_room (Nat.le_of_ble_eq_true rfl)) dX11_isSumPlace_2 ⟨Nat.le_refl 0, Nat.le_refl 0⟩) (fun r1 h2 H locs hq hW => ?_)
  rw [hq.1] at hW
  have hq := hq.2
  refine lv_if_eq (tgt := 32) hx hb dX11_isSumPlace_5 (by decide) (fun c3 => ?_) (fun c3 => ?_)
  · have hq := hq.1 c3
    refine lv_iconst (v := 0) hx hb dX11_isSumPlace_32 (by decide) ?_
    exact k_zret rfl isZ_0.1 C hW dX11_isSumPlace_33 ⟨rfl, hq⟩
  · have hq := hq.2 c3
    refine lv_aload_n hx hb dX11_isSumPlace_8 rfl (lv_at hl 0 rfl) ?_
    refine lv_iload_n hx hb dX11_isSumPlace_9 rfl (lv_at hl 2 rfl) ?_
    refine k_ci hW (va_runV (As := [.int x2]) (rest := []) (k_fix C) (c_X11_isRow l G h x2 _ hq) (cwV 1 C.2.2.2.2.2.1 (gU_V mw745 mw746 mw747 mw2 mw748) rfl rfl rfl (by decide +kernel) ⟨Nat.le_of_ble_eq_true rfl, Nat.le_of_ble_eq_true rfl⟩) (k_preV hK hW (shC_lt (rfl : shC 0 = 11) (by decide)) (ceC_11 (rfl : shC 0 = 11)) (q := (RX11, TX11, 11)) rfl) rfl rfl hl.1 rfl (lv_room (Nat.le_of_ble_eq_true rfl)) dX11_isSumPlace_10 ⟨Nat.le_refl 0, Nat.le_refl 0⟩) (fun r4 h5 H locs hq hW => ?_)
    rw [hq.1] at hW
    have hq := hq.2
    refine lv_if_eq (tgt := 32) hx hb dX11_isSumPlace_13 (by decide) (fun c6 => ?_) (fun c6 => ?_)
    · have hq := hq.1 c6
      refine lv_iconst (v := 0) hx hb dX11_isSumPlace_32 (by decide) ?_
      exact k_zret rfl isZ_0.1 C hW dX11_isSumPlace_33 ⟨rfl, hq⟩
    · have hq := hq.2 c6
      refine lv_iload_n hx hb dX11_isSumPlace_16 rfl (lv_at hl 3 rfl) ?_
      refine lv_i2l (v := x3.toInt64) hx hb dX11_isSumPlace_17 rfl ?_
      refine lv_lconst (v := 0) hx hb dX11_isSumPlace_18 (by decide) ?_
      refine lv_ldc2 (v := 10) hx hb C.2.2.2.2.1 (C.2.2.2.2.2.1 _ (List.mem_cons_of_mem _ mw814)) dX11_isSumPlace_19 ?_
      refine k_ci hW (va_runS (As := [.long (x3.toInt64), .long 0, .long 10]) (rest := []) (k_fix C) (c_X11_within l G h (x3.toInt64) 0 10 _ hq) (va_cwS 3 C.2.2.2.2.2.1 (gU_S mw780 mw446 mw2 mw447) rfl rfl rfl (by decide +kernel) ⟨Nat.le_of_ble_eq_true rfl, Nat.le_of_ble_eq_true rfl⟩) (k_preS hK hW) rfl rfl hl.1 rfl (lv_room (Nat.le_of_ble_eq_true rfl)) dX11_isSumPlace_22 ⟨Nat.le_refl 0, Nat.le_refl 0⟩) (fun r7 h8 H locs hq hW => ?_)
      rw [hq.1] at hW
      have hq := hq.2
      refine lv_if_eq (tgt := 32) hx hb dX11_isSumPlace_25 (by decide) (fun c9 => ?_) (fun c9 => ?_)
      · have hq := hq.1 c9
        refine lv_iconst (v := 0) hx hb dX11_isSumPlace_32 (by decide) ?_
        exact k_zret rfl isZ_0.1 C hW dX11_isSumPlace_33 ⟨rfl, hq⟩
      · have hq := hq.2 c9
        refine lv_iconst (v := 1) hx hb dX11_isSumPlace_28 (by decide) ?_
        refine lv_goto (tgt := 33) hx hb dX11_isSumPlace_29 (by decide) ?_
        exact k_zret rfl isZ_1.1 C hW dX11_isSumPlace_33 ⟨rfl, hq⟩
theorem c_X11_isSumPlace (l : Launch) (G : wG) (h : hp) (x1 : Int32) (x2 : Int32) (x3 : Int32) (Q : Int32 → Prop) (hq : w_X11_isSumPlace h x1 x2 x3 Q) : ctI l SC G yX11_isSumPlace wUX11_isSumPlace rmX11_isSumPlace h [.ref (G.2.2 0), .int x1, .int x2, .int x3] (fun r9 h9 => h9 = h ∧ Q r9) := by
  refine k_start (cc := cX11_isSumPlace) (maxL := 4) (rt := (some .boolean)) (own := RX11) (by decide +kernel) rfl rfl (Nat.le_of_ble_eq_true rfl) ?_
  intro p e s m below meth c ls C hK hW hl
  exact k_X11_isSumPlace_0 C hK hW hl hq
theorem k_X11_plus_0 {Q : Int32 → Prop} {x1 : Int32} {x2 : Int32} {x3 : Int32} {h : hp} (C : kC p s m args meth c cX11_plus 4 (some .int) RX11 wUX11_plus) (hK : kK G s) {H : Heap} {locs : List Loc} {ls : Array Slot} (hW : kW SC G h (aS SC G) s H locs) (hl : lv_has ls 4 [(0, .ref (G.2.2 0)), (1, .int x1), (2, .int x2), (3, .int x3)]) (hq : w_X11_plus_0 Q x1 x2 x3 h) : W p l e rmX11_plus s m args below meth c H locs 0 0 (MQ below (va_Qi (fun r9 h9 => h9 = h ∧ Q r9) (kB SC G) (aS SC G)) args s 0 0 (aS SC G)) (F0 m 0 ls []) := by
  have hx := C.1
  have hb := C.2.1
  unfold w_X11_plus_0 at hq
  refine lv_aload_n hx hb dX11_plus_0 rfl (lv_at hl 0 rfl) ?_
  refine lv_iload_n hx hb dX11_plus_1 rfl (lv_at hl 1 rfl) ?_
  refine lv_iload_n hx hb dX11_plus_2 rfl (lv_at hl 2 rfl) ?_
  refine lv_iload_n hx hb dX11_plus_3 rfl (lv_at hl 3 rfl) ?_
  refine k_ci hW (va_runV (As := [.int x1, .int x2, .int x3]) (rest := []) (k_fix C) (c_X11_isSumPlace l G h x1 x2 x3 _ hq) (cwV 3 C.2.2.2.2.2.1 (gU_V mw1450 mw1451 mw1452 mw2 mw1453) rfl rfl rfl (by decide +kernel) ⟨Nat.le_of_ble_eq_true rfl, Nat.le_of_ble_eq_true rfl⟩) (k_preV hK hW (shC_lt (rfl : shC 0 = 11) (by decide)) (ceC_11 (rfl : shC 0 = 11)) (q := (RX11, TX11, 11)) rfl) rfl rfl hl.1 rfl (lv_room (Nat.le_of_ble_eq_true rfl)) dX11_plus_4 ⟨Nat.le_refl 0, Nat.le_refl 0⟩) (fun r1 h2 H locs hq hW => ?_)
  rw [hq.1] at hW
  have hq := hq.2
  refine lv_if_ne (tgt := 13) hx hb dX11_plus_7 (by decide) (fun c3 => ?_) (fun c3 => ?_)
  · have hq := hq.1 c3
    refine lv_aload_n hx hb dX11_plus_13 rfl (lv_at hl 0 rfl) ?_
    refine gt11_4 C hK hW (rfl : shC 0 = 11) (List.mem_cons_of_mem _ mw24) (fun _ h9 => List.mem_cons_of_mem _ (inU_wsX110 _ h9)) dX11_plus_14 ?_
    have hr4 := hq.1
    have hq := hq.2
    refine lv_iload_n hx hb dX11_plus_17 rfl (lv_at hl 1 rfl) ?_
    refine lv_iload_n hx hb dX11_plus_18 rfl (lv_at hl 3 rfl) ?_
    refine k_ci hW (va_runV (As := [.int x1, .int x3]) (rest := []) (k_fix C) (c_X7_numberAt l G hr4 h x1 x3 _ hq) (cwV 2 C.2.2.2.2.2.1 (gU_V mw750 mw751 mw752 mw23 mw753) rfl rfl rfl (by decide +kernel) ⟨Nat.le_of_ble_eq_true rfl, Nat.le_of_ble_eq_true rfl⟩) (k_preV hK hW (shC_lt hr4 (by decide)) (ceC_7 hr4) (q := (RX7, TX7, 10)) rfl) rfl rfl hl.1 rfl (lv_room (Nat.le_of_ble_eq_true rfl)) dX11_plus_19 ⟨Nat.le_refl 0, Nat.le_refl 0⟩) (fun r5 h6 H locs hq hW => ?_)
    rw [hq.1] at hW
    have hq := hq.2
    refine lv_aload_n hx hb dX11_plus_22 rfl (lv_at hl 0 rfl) ?_
    refine gt11_4 C hK hW (rfl : shC 0 = 11) (List.mem_cons_of_mem _ mw24) (fun _ h9 => List.mem_cons_of_mem _ (inU_wsX110 _ h9)) dX11_plus_23 ?_
    have hr7 := hq.1
    have hq := hq.2
    refine lv_iload_n hx hb dX11_plus_26 rfl (lv_at hl 2 rfl) ?_
    refine lv_iload_n hx hb dX11_plus_27 rfl (lv_at hl 3 rfl) ?_
    refine k_ci hW (va_runV (As := [.int x2, .int x3]) (rest := [.int r5]) (k_fix C) (c_X7_numberAt l G hr7 h x2 x3 _ hq) (cwV 2 C.2.2.2.2.2.1 (gU_V mw750 mw751 mw752 mw23 mw753) rfl rfl rfl (by decide +kernel) ⟨Nat.le_of_ble_eq_true rfl, Nat.le_of_ble_eq_true rfl⟩) (k_preV hK hW (shC_lt hr7 (by decide)) (ceC_7 hr7) (q := (RX7, TX7, 10)) rfl) rfl rfl hl.1 rfl (lv_room (Nat.le_of_ble_eq_true rfl)) dX11_plus_28 ⟨Nat.le_refl 0, Nat.le_refl 0⟩) (fun r8 h9 H locs hq hW => ?_)
    rw [hq.1] at hW
    have hq := hq.2
    refine lv_iadd hx hb dX11_plus_31 ?_
    exact k_iret rfl C hW dX11_plus_32 ⟨rfl, hq⟩
  · have hq := hq.2 c3
    refine lv_ldc (v := (-100000)) hx hb C.2.2.2.2.1 (C.2.2.2.2.2.1 _ (List.mem_cons_of_mem _ mw1449)) dX11_plus_10 ?_
    exact k_iret rfl C hW dX11_plus_12 ⟨rfl, hq⟩
theorem c_X11_plus (l : Launch) (G : wG) (h : hp) (x1 : Int32) (x2 : Int32) (x3 : Int32) (Q : Int32 → Prop) (hq : w_X11_plus h x1 x2 x3 Q) : ctI l SC G yX11_plus wUX11_plus rmX11_plus h [.ref (G.2.2 0), .int x1, .int x2, .int x3] (fun r9 h9 => h9 = h ∧ Q r9) := by
  refine k_start (cc := cX11_plus) (maxL := 4) (rt := (some .int)) (own := RX11) (by decide +kernel) rfl rfl (Nat.le_of_ble_eq_true rfl) ?_
  intro p e s m below meth c ls C hK hW hl
  exact k_X11_plus_0 C hK hW hl hq
theorem k_X11_times_b19 {Q : Int32 → Prop} {X19 : Int32 × Int32 → Prop} {x1 : Int32} {x2 : Int32} {x3 : Int32} {h : hp} (C : kC p s m args meth c cX11_times 6 (some .int) RX11 wUX11_times) (hK : kK G s) (hX19 : ∀ (x4 : Int32) (x5 : Int32) (H : Heap) (locs : List Loc) (ls : Array Slot), kW SC G h (aS SC G) s H locs → lv_has ls 6 [(0, .ref (G.2.2 0)), (1, .int x1), (2, .int x2), (3, .int x3), (4, .int x4), (5, .int x5)] → X19 (x4, x5) → W p l e rmX11_times s m args below meth c H locs 0 0 (MQ below (va_Qi (fun r9 h9 => h9 = h ∧ Q r9) (kB SC G) (aS SC G)) args s 0 0 (aS SC G)) (F0 m 19 ls [])) {x4 : Int32} {x5 : Int32} {H : Heap} {locs : List Loc} {ls : Array Slot} (hW : kW SC G h (aS SC G) s H locs) (hl : lv_has ls 6 [(0, .ref (G.2.2 0)), (1, .int x1), (2, .int x2), (3, .int x3), (4, .int x4), (5, .int x5)]) (hq : w_X11_times_b19 Q x1 x2 x3 h X19 x4 x5) : W p l e rmX11_times s m args below meth c H locs 0 0 (MQ below (va_Qi (fun r9 h9 => h9 = h ∧ Q r9) (kB SC G) (aS SC G)) args s 0 0 (aS SC G)) (F0 m 19 ls []) := by
  have hx := C.1
  have hb := C.2.1
  unfold w_X11_times_b19 at hq
  refine lv_iload hx hb dX11_times_19 (lv_at hl 5 rfl) ?_
  refine lv_iload_n hx hb dX11_times_21 rfl (lv_at hl 3 rfl) ?_
  refine lv_icmp_gt (tgt := 59) hx hb dX11_times_22 (by decide) (fun c4 => ?_) (fun c4 => ?_)
  · have hq := hq.1 c4
    refine lv_iload hx hb dX11_times_59 (lv_at hl 4 rfl) ?_
    exact k_iret rfl C hW dX11_times_61 ⟨rfl, hq⟩
  · have hq := hq.2 c4
    refine lv_iload hx hb dX11_times_25 (lv_at hl 4 rfl) ?_
    refine lv_aload_n hx hb dX11_times_27 rfl (lv_at hl 0 rfl) ?_
    refine gt11_4 C hK hW (rfl : shC 0 = 11) (List.mem_cons_of_mem _ mw24) (fun _ h9 => List.mem_cons_of_mem _ (inU_wsX110 _ h9)) dX11_times_28 ?_
    have hr5 := hq.1
    have hq := hq.2
    refine lv_iload_n hx hb dX11_times_31 rfl (lv_at hl 1 rfl) ?_
    refine lv_iload hx hb dX11_times_32 (lv_at hl 5 rfl) ?_
    refine k_ci hW (va_runV (As := [.int x1, .int x5]) (rest := [.int x4]) (k_fix C) (c_X7_numberAt l G hr5 h x1 x5 _ hq) (cwV 2 C.2.2.2.2.2.1 (gU_V mw750 mw751 mw752 mw23 mw753) rfl rfl rfl (by decide +kernel) ⟨Nat.le_of_ble_eq_true rfl, Nat.le_of_ble_eq_true rfl⟩) (k_preV hK hW (shC_lt hr5 (by decide)) (ceC_7 hr5) (q := (RX7, TX7, 10)) rfl) rfl rfl hl.1 rfl (lv_room (Nat.le_of_ble_eq_true rfl)) dX11_times_34 ⟨Nat.le_refl 0, Nat.le_refl 0⟩) (fun r6 h7 H locs hq hW => ?_)
    rw [hq.1] at hW
    have hq := hq.2
    refine lv_aload_n hx hb dX11_times_37 rfl (lv_at hl 0 rfl) ?_
    refine gt11_4 C hK hW (rfl : shC 0 = 11) (List.mem_cons_of_mem _ mw24) (fun _ h9 => List.mem_cons_of_mem _ (inU_wsX110 _ h9)) dX11_times_38 ?_
    have hr8 := hq.1
    have hq := hq.2
    refine lv_iload_n hx hb dX11_times_41 rfl (lv_at hl 2 rfl) ?_
    refine lv_iload_n hx hb dX11_times_42 rfl (lv_at hl 3 rfl) ?_
    refine lv_iload hx hb dX11_times_43 (lv_at hl 5 rfl) ?_
    refine lv_isub hx hb dX11_times_45 ?_
    refine k_ci hW (va_runV (As := [.int x2, .int (x3 - x5)]) (rest := [.int r6, .int x4]) (k_fix C) (c_X7_numberAt l G hr8 h x2 (x3 - x5) _ hq) (cwV 2 C.2.2.2.2.2.1 (gU_V mw750 mw751 mw752 mw23 mw753) rfl rfl rfl (by decide +kernel) ⟨Nat.le_of_ble_eq_true rfl, Nat.le_of_ble_eq_true rfl⟩) (k_preV hK hW (shC_lt hr8 (by decide)) (ceC_7 hr8) (q := (RX7, TX7, 10)) rfl) rfl rfl hl.1 rfl (lv_room (Nat.le_of_ble_eq_true rfl)) dX11_times_46 ⟨Nat.le_refl 0, Nat.le_refl 0⟩) (fun r9 h10 H locs hq hW => ?_)
    rw [hq.1] at hW
    have hq := hq.2
    refine lv_imul hx hb dX11_times_49 ?_
    refine lv_iadd hx hb dX11_times_50 ?_
    refine lv_topi (fun x4_11 ex4_11 => ?_)
    have hq := hq x4_11 ex4_11
    refine lv_istore (lv' := [(4, .int x4_11), (0, .ref (G.2.2 0)), (1, .int x1), (2, .int x2), (3, .int x3), (5, .int x5)]) hx hb dX11_times_51 hl (by decide) rfl (fun ls hl => ?_)
    obtain ⟨x5_12, ex5_12⟩ : ∃ y : Int32, y = x5 + 1 := ⟨_, rfl⟩
    have hq := hq x5_12 ex5_12
    refine lv_iinc (v := x5_12) (lv' := [(5, .int x5_12), (4, .int x4_11), (0, .ref (G.2.2 0)), (1, .int x1), (2, .int x2), (3, .int x3)]) hx hb dX11_times_53 hl (k := 5) rfl (by rw [ex5_12]; rfl) (by decide) rfl (fun ls hl => ?_)
    refine lv_goto (tgt := 19) hx hb dX11_times_56 (by decide) ?_
    exact hX19 _ _ _ _ _ hW (lv_sub hl [2, 3, 4, 5, 1, 0] rfl) hq
theorem k_X11_times_19 {Q : Int32 → Prop} {x1 : Int32} {x2 : Int32} {x3 : Int32} {h : hp} (C : kC p s m args meth c cX11_times 6 (some .int) RX11 wUX11_times) (hK : kK G s) {x4 : Int32} {x5 : Int32} {H : Heap} {locs : List Loc} {ls : Array Slot} (hW : kW SC G h (aS SC G) s H locs) (hl : lv_has ls 6 [(0, .ref (G.2.2 0)), (1, .int x1), (2, .int x2), (3, .int x3), (4, .int x4), (5, .int x5)]) (hq : w_X11_times_19 Q x1 x2 x3 h x4 x5) : W p l e rmX11_times s m args below meth c H locs 0 0 (MQ below (va_Qi (fun r9 h9 => h9 = h ∧ Q r9) (kB SC G) (aS SC G)) args s 0 0 (aS SC G)) (F0 m 19 ls []) := by
  have key := hq (fun (q : Int32 × Int32) => ∀ (H : Heap) (locs : List Loc) (ls : Array Slot), kW SC G h (aS SC G) s H locs → lv_has ls 6 [(0, .ref (G.2.2 0)), (1, .int x1), (2, .int x2), (3, .int x3), (4, .int q.1), (5, .int q.2)] → W p l e rmX11_times s m args below meth c H locs 0 0 (MQ below (va_Qi (fun r9 h9 => h9 = h ∧ Q r9) (kB SC G) (aS SC G)) args s 0 0 (aS SC G)) (F0 m 19 ls []))
    (fun q hq H locs ls hW hl => k_X11_times_b19 C hK (fun x4 x5 H locs ls hW hl hI => hI H locs ls hW hl) hW hl hq)
  exact key _ _ _ hW hl
theorem k_X11_times_0 {Q : Int32 → Prop} {x1 : Int32} {x2 : Int32} {x3 : Int32} {h : hp} (C : kC p s m args meth c cX11_times 6 (some .int) RX11 wUX11_times) (hK : kK G s) {H : Heap} {locs : List Loc} {ls : Array Slot} (hW : kW SC G h (aS SC G) s H locs) (hl : lv_has ls 6 [(0, .ref (G.2.2 0)), (1, .int x1), (2, .int x2), (3, .int x3)]) (hq : w_X11_times_0 Q x1 x2 x3 h) : W p l e rmX11_times s m args below meth c H locs 0 0 (MQ below (va_Qi (fun r9 h9 => h9 = h ∧ Q r9) (kB SC G) (aS SC G)) args s 0 0 (aS SC G)) (F0 m 0 ls []) := by
  have hx := C.1
  have hb := C.2.1
  unfold w_X11_times_0 at hq
  refine lv_aload_n hx hb dX11_times_0 rfl (lv_at hl 0 rfl) ?_
  refine lv_iload_n hx hb dX11_times_1 rfl (lv_at hl 1 rfl) ?_
  refine lv_iload_n hx hb dX11_times_2 rfl (lv_at hl 2 rfl) ?_
  refine lv_iload_n hx hb dX11_times_3 rfl (lv_at hl 3 rfl) ?_
  refine k_ci hW (va_runV (As := [.int x1, .int x2, .int x3]) (rest := []) (k_fix C) (c_X11_isSumPlace l G h x1 x2 x3 _ hq) (cwV 3 C.2.2.2.2.2.1 (gU_V mw1450 mw1451 mw1452 mw2 mw1453) rfl rfl rfl (by decide +kernel) ⟨Nat.le_of_ble_eq_true rfl, Nat.le_of_ble_eq_true rfl⟩) (k_preV hK hW (shC_lt (rfl : shC 0 = 11) (by decide)) (ceC_11 (rfl : shC 0 = 11)) (q := (RX11, TX11, 11)) rfl) rfl rfl hl.1 rfl (lv_room (Nat.le_of_ble_eq_true rfl)) dX11_times_4 ⟨Nat.le_refl 0, Nat.le_refl 0⟩) (fun r1 h2 H locs hq hW => ?_)
  rw [hq.1] at hW
  have hq := hq.2
  refine lv_if_ne (tgt := 13) hx hb dX11_times_7 (by decide) (fun c3 => ?_) (fun c3 => ?_)
  · have hq := hq.1 c3
    refine lv_iconst (v := 0) hx hb dX11_times_13 (by decide) ?_
    refine lv_istore (lv' := [(4, .int 0), (0, .ref (G.2.2 0)), (1, .int x1), (2, .int x2), (3, .int x3)]) hx hb dX11_times_14 hl (by decide) rfl (fun ls hl => ?_)
    refine lv_iconst (v := 0) hx hb dX11_times_16 (by decide) ?_
    refine lv_istore (lv' := [(5, .int 0), (4, .int 0), (0, .ref (G.2.2 0)), (1, .int x1), (2, .int x2), (3, .int x3)]) hx hb dX11_times_17 hl (by decide) rfl (fun ls hl => ?_)
    exact k_X11_times_19 C hK hW (lv_sub hl [2, 3, 4, 5, 1, 0] rfl) hq
  · have hq := hq.2 c3
    refine lv_ldc (v := (-100000)) hx hb C.2.2.2.2.1 (C.2.2.2.2.2.1 _ (List.mem_cons_of_mem _ mw1449)) dX11_times_10 ?_
    exact k_iret rfl C hW dX11_times_12 ⟨rfl, hq⟩
theorem c_X11_times (l : Launch) (G : wG) (h : hp) (x1 : Int32) (x2 : Int32) (x3 : Int32) (Q : Int32 → Prop) (hq : w_X11_times h x1 x2 x3 Q) : ctI l SC G yX11_times wUX11_times rmX11_times h [.ref (G.2.2 0), .int x1, .int x2, .int x3] (fun r9 h9 => h9 = h ∧ Q r9) := by
  refine k_start (cc := cX11_times) (maxL := 6) (rt := (some .int)) (own := RX11) (by decide +kernel) rfl rfl (Nat.le_of_ble_eq_true rfl) ?_
  intro p e s m below meth c ls C hK hW hl
  exact k_X11_times_0 C hK hW hl hq
theorem k_X11_isWorld_0 {Q : Int32 → Prop} {x1 : Int32} {h : hp} (C : kC p s m args meth c cX11_isWorld 2 (some .boolean) RX11 wUX11_isWorld) (hK : kK G s) {H : Heap} {locs : List Loc} {ls : Array Slot} (hW : kW SC G h (aS SC G) s H locs) (hl : lv_has ls 2 [(0, .ref (G.2.2 0)), (1, .int x1)]) (hq : w_X11_isWorld_0 Q x1 h) : W p l e rmX11_isWorld s m args below meth c H locs 0 0 (MQ below (va_Qi (fun r9 h9 => h9 = h ∧ Q r9) (kB SC G) (aS SC G)) args s 0 0 (aS SC G)) (F0 m 0 ls []) := by
  have hx := C.1
  have hb := C.2.1
  unfold w_X11_isWorld_0 at hq
  refine lv_iload_n hx hb dX11_isWorld_0 rfl (lv_at hl 1 rfl) ?_
  refine lv_if_lt (tgt := 19) hx hb dX11_isWorld_1 (by decide) (fun c1 => ?_) (fun c1 => ?_)
  · have hq := hq.1 c1
    refine lv_iconst (v := 0) hx hb dX11_isWorld_19 (by decide) ?_
    exact k_zret rfl isZ_0.1 C hW dX11_isWorld_20 ⟨rfl, hq⟩
  · have hq := hq.2 c1
    refine lv_iload_n hx hb dX11_isWorld_4 rfl (lv_at hl 1 rfl) ?_
    refine lv_aload_n hx hb dX11_isWorld_5 rfl (lv_at hl 0 rfl) ?_
    refine gt11_9 C hK hW (rfl : shC 0 = 11) (List.mem_cons_of_mem _ mw35) (fun _ h9 => List.mem_cons_of_mem _ (inU_wsX110 _ h9)) dX11_isWorld_6 ?_
    refine gt10_1 C hK hW (rfl : shC 64 = 10) (List.mem_cons_of_mem _ mw910) (fun _ h9 => List.mem_cons_of_mem _ (inU_wsX100 _ h9)) dX11_isWorld_9 ?_
    refine lv_icmp_ge (tgt := 19) hx hb dX11_isWorld_12 (by decide) (fun c2 => ?_) (fun c2 => ?_)
    · have hq := hq.1 c2
      refine lv_iconst (v := 0) hx hb dX11_isWorld_19 (by decide) ?_
      exact k_zret rfl isZ_0.1 C hW dX11_isWorld_20 ⟨rfl, hq⟩
    · have hq := hq.2 c2
      refine lv_iconst (v := 1) hx hb dX11_isWorld_15 (by decide) ?_
      refine lv_goto (tgt := 20) hx hb dX11_isWorld_16 (by decide) ?_
      exact k_zret rfl isZ_1.1 C hW dX11_isWorld_20 ⟨rfl, hq⟩
theorem c_X11_isWorld (l : Launch) (G : wG) (h : hp) (x1 : Int32) (Q : Int32 → Prop) (hq : w_X11_isWorld h x1 Q) : ctI l SC G yX11_isWorld wUX11_isWorld rmX11_isWorld h [.ref (G.2.2 0), .int x1] (fun r9 h9 => h9 = h ∧ Q r9) := by
  refine k_start (cc := cX11_isWorld) (maxL := 2) (rt := (some .boolean)) (own := RX11) (by decide +kernel) rfl rfl (Nat.le_of_ble_eq_true rfl) ?_
  intro p e s m below meth c ls C hK hW hl
  exact k_X11_isWorld_0 C hK hW hl hq
theorem k_X11_world_0 {Q : Int32 → Prop} {x1 : Int32} {x2 : Int32} {h : hp} (C : kC p s m args meth c cX11_world 3 (some .int) RX11 wUX11_world) (hK : kK G s) {H : Heap} {locs : List Loc} {ls : Array Slot} (hW : kW SC G h (aS SC G) s H locs) (hl : lv_has ls 3 [(0, .ref (G.2.2 0)), (1, .int x1), (2, .int x2)]) (hq : w_X11_world_0 Q x1 x2 h) : W p l e rmX11_world s m args below meth c H locs 0 0 (MQ below (va_Qi (fun r9 h9 => h9 = h ∧ Q r9) (kB SC G) (aS SC G)) args s 0 0 (aS SC G)) (F0 m 0 ls []) := by
  have hx := C.1
  have hb := C.2.1
  unfold w_X11_world_0 at hq
  refine lv_iload_n hx hb dX11_world_0 rfl (lv_at hl 2 rfl) ?_
  refine lv_iconst (v := (-1)) hx hb dX11_world_1 (by decide) ?_
  refine lv_icmp_ne (tgt := 13) hx hb dX11_world_2 (by decide) (fun c1 => ?_) (fun c1 => ?_)
  · have hq := hq.1 c1
    refine lv_aload_n hx hb dX11_world_13 rfl (lv_at hl 0 rfl) ?_
    refine lv_iload_n hx hb dX11_world_14 rfl (lv_at hl 1 rfl) ?_
    refine k_ci hW (va_runV (As := [.int x1]) (rest := []) (k_fix C) (c_X11_isWorld l G h x1 _ hq) (cwV 1 C.2.2.2.2.2.1 (gU_V mw912 mw913 mw914 mw2 mw915) rfl rfl rfl (by decide +kernel) ⟨Nat.le_of_ble_eq_true rfl, Nat.le_of_ble_eq_true rfl⟩) (k_preV hK hW (shC_lt (rfl : shC 0 = 11) (by decide)) (ceC_11 (rfl : shC 0 = 11)) (q := (RX11, TX11, 11)) rfl) rfl rfl hl.1 rfl (lv_room (Nat.le_of_ble_eq_true rfl)) dX11_world_15 ⟨Nat.le_refl 0, Nat.le_refl 0⟩) (fun r2 h3 H locs hq hW => ?_)
    rw [hq.1] at hW
    have hq := hq.2
    refine lv_if_eq (tgt := 36) hx hb dX11_world_18 (by decide) (fun c4 => ?_) (fun c4 => ?_)
    · have hq := hq.1 c4
      refine lv_iconst (v := (-1)) hx hb dX11_world_36 (by decide) ?_
      exact k_iret rfl C hW dX11_world_37 ⟨rfl, hq⟩
    · have hq := hq.2 c4
      refine lv_iload_n hx hb dX11_world_21 rfl (lv_at hl 2 rfl) ?_
      refine lv_if_lt (tgt := 36) hx hb dX11_world_22 (by decide) (fun c5 => ?_) (fun c5 => ?_)
      · have hq := hq.1 c5
        refine lv_iconst (v := (-1)) hx hb dX11_world_36 (by decide) ?_
        exact k_iret rfl C hW dX11_world_37 ⟨rfl, hq⟩
      · have hq := hq.2 c5
        refine lv_iload_n hx hb dX11_world_25 rfl (lv_at hl 2 rfl) ?_
        refine lv_aload_n hx hb dX11_world_26 rfl (lv_at hl 0 rfl) ?_
        refine gt11_9 C hK hW (rfl : shC 0 = 11) (List.mem_cons_of_mem _ mw35) (fun _ h9 => List.mem_cons_of_mem _ (inU_wsX110 _ h9)) dX11_world_27 ?_
        refine gt10_0 C hK hW (rfl : shC 64 = 10) (List.mem_cons_of_mem _ mw911) (fun _ h9 => List.mem_cons_of_mem _ (inU_wsX100 _ h9)) dX11_world_30 ?_
        refine lv_icmp_lt (tgt := 38) hx hb dX11_world_33 (by decide) (fun c6 => ?_) (fun c6 => ?_)
        · have hq := hq.1 c6
          refine lv_aload_n hx hb dX11_world_38 rfl (lv_at hl 0 rfl) ?_
          refine gt11_9 C hK hW (rfl : shC 0 = 11) (List.mem_cons_of_mem _ mw35) (fun _ h9 => List.mem_cons_of_mem _ (inU_wsX110 _ h9)) dX11_world_39 ?_
          refine lv_iload_n hx hb dX11_world_42 rfl (lv_at hl 1 rfl) ?_
          refine lv_iload_n hx hb dX11_world_43 rfl (lv_at hl 2 rfl) ?_
          refine k_ci hW (va_runV (As := [.int x1, .int x2]) (rest := []) (k_fix C) (c_X10_numberAt l G h x1 x2 _ hq) (cwV 2 C.2.2.2.2.2.1 (gU_V mw916 mw917 mw918 mw34 mw919) rfl rfl rfl (by decide +kernel) ⟨Nat.le_of_ble_eq_true rfl, Nat.le_of_ble_eq_true rfl⟩) (k_preV hK hW (shC_lt (rfl : shC 64 = 10) (by decide)) (ceC_10 (rfl : shC 64 = 10)) (q := (RX10, TX10, 7)) rfl) rfl rfl hl.1 rfl (lv_room (Nat.le_of_ble_eq_true rfl)) dX11_world_44 ⟨Nat.le_refl 0, Nat.le_refl 0⟩) (fun r7 h8 H locs hq hW => ?_)
          rw [hq.1] at hW
          have hq := hq.2
          exact k_iret rfl C hW dX11_world_47 ⟨rfl, hq⟩
        · have hq := hq.2 c6
          refine lv_iconst (v := (-1)) hx hb dX11_world_36 (by decide) ?_
          exact k_iret rfl C hW dX11_world_37 ⟨rfl, hq⟩
  · have hq := hq.2 c1
    refine lv_aload_n hx hb dX11_world_5 rfl (lv_at hl 0 rfl) ?_
    refine gt11_9 C hK hW (rfl : shC 0 = 11) (List.mem_cons_of_mem _ mw35) (fun _ h9 => List.mem_cons_of_mem _ (inU_wsX110 _ h9)) dX11_world_6 ?_
    refine gt10_1 C hK hW (rfl : shC 64 = 10) (List.mem_cons_of_mem _ mw910) (fun _ h9 => List.mem_cons_of_mem _ (inU_wsX100 _ h9)) dX11_world_9 ?_
    exact k_iret rfl C hW dX11_world_12 ⟨rfl, hq⟩
theorem c_X11_world (l : Launch) (G : wG) (h : hp) (x1 : Int32) (x2 : Int32) (Q : Int32 → Prop) (hq : w_X11_world h x1 x2 Q) : ctI l SC G yX11_world wUX11_world rmX11_world h [.ref (G.2.2 0), .int x1, .int x2] (fun r9 h9 => h9 = h ∧ Q r9) := by
  refine k_start (cc := cX11_world) (maxL := 3) (rt := (some .int)) (own := RX11) (by decide +kernel) rfl rfl (Nat.le_of_ble_eq_true rfl) ?_
  intro p e s m below meth c ls C hK hW hl
  exact k_X11_world_0 C hK hW hl hq
theorem k_X11_clash_0 {Q : Int32 → hp → Prop} {x1 : Int32} {x2 : Int32} {h : hp} (C : kC p s m args meth c cX11_clash 3 (some .int) RX11 wUX11_clash) (hK : kK G s) {H : Heap} {locs : List Loc} {ls : Array Slot} (hW : kW SC G h (aS SC G) s H locs) (hl : lv_has ls 3 [(0, .ref (G.2.2 0)), (1, .int x1), (2, .int x2)]) (hq : w_X11_clash_0 Q x1 x2 h) : W p l e rmX11_clash s m args below meth c H locs 0 0 (MQ below (va_Qi Q (kB SC G) (aS SC G)) args s 0 0 (aS SC G)) (F0 m 0 ls []) := by
  have hx := C.1
  have hb := C.2.1
  unfold w_X11_clash_0 at hq
  refine lv_iload_n hx hb dX11_clash_0 rfl (lv_at hl 1 rfl) ?_
  refine lv_i2l (v := x1.toInt64) hx hb dX11_clash_1 rfl ?_
  refine lv_lconst (v := 0) hx hb dX11_clash_2 (by decide) ?_
  refine lv_ldc2 (v := 999) hx hb C.2.2.2.2.1 (C.2.2.2.2.2.1 _ (List.mem_cons_of_mem _ mw778)) dX11_clash_3 ?_
  refine k_ci hW (va_runS (As := [.long (x1.toInt64), .long 0, .long 999]) (rest := []) (k_fix C) (c_X11_within l G h (x1.toInt64) 0 999 _ hq) (va_cwS 3 C.2.2.2.2.2.1 (gU_S mw780 mw446 mw2 mw447) rfl rfl rfl (by decide +kernel) ⟨Nat.le_of_ble_eq_true rfl, Nat.le_of_ble_eq_true rfl⟩) (k_preS hK hW) rfl rfl hl.1 rfl (lv_room (Nat.le_of_ble_eq_true rfl)) dX11_clash_6 ⟨Nat.le_refl 0, Nat.le_refl 0⟩) (fun r1 h2 H locs hq hW => ?_)
  rw [hq.1] at hW
  have hq := hq.2
  refine lv_if_eq (tgt := 24) hx hb dX11_clash_9 (by decide) (fun c3 => ?_) (fun c3 => ?_)
  · have hq := hq.1 c3
    refine lv_iconst (v := (-1)) hx hb dX11_clash_24 (by decide) ?_
    exact k_iret rfl C hW dX11_clash_25 hq
  · have hq := hq.2 c3
    refine lv_aload_n hx hb dX11_clash_12 rfl (lv_at hl 0 rfl) ?_
    refine gt11_9 C hK hW (rfl : shC 0 = 11) (List.mem_cons_of_mem _ mw35) (fun _ h9 => List.mem_cons_of_mem _ (inU_wsX110 _ h9)) dX11_clash_13 ?_
    refine lv_iload_n hx hb dX11_clash_16 rfl (lv_at hl 1 rfl) ?_
    refine lv_iload_n hx hb dX11_clash_17 rfl (lv_at hl 2 rfl) ?_
    refine k_ci hW (va_runV (As := [.int x1, .int x2]) (rest := []) (k_fix C) (c_X10_clashing l G h x1 x2 _ hq) (cwV 2 C.2.2.2.2.2.1 (gU_V mw850 mw851 mw852 mw34 mw853) rfl rfl rfl (by decide +kernel) ⟨Nat.le_of_ble_eq_true rfl, Nat.le_of_ble_eq_true rfl⟩) (k_preV hK hW (shC_lt (rfl : shC 64 = 10) (by decide)) (ceC_10 (rfl : shC 64 = 10)) (q := (RX10, TX10, 7)) rfl) rfl rfl hl.1 rfl (lv_room (Nat.le_of_ble_eq_true rfl)) dX11_clash_18 ⟨Nat.le_refl 0, Nat.le_refl 0⟩) (fun r5 h4 H locs hq hW => ?_)
    refine lv_goto (tgt := 25) hx hb dX11_clash_21 (by decide) ?_
    exact k_iret rfl C hW dX11_clash_25 hq
theorem c_X11_clash (l : Launch) (G : wG) (h : hp) (x1 : Int32) (x2 : Int32) (Q : Int32 → hp → Prop) (hq : w_X11_clash h x1 x2 Q) : ctI l SC G yX11_clash wUX11_clash rmX11_clash h [.ref (G.2.2 0), .int x1, .int x2] Q := by
  refine k_start (cc := cX11_clash) (maxL := 3) (rt := (some .int)) (own := RX11) (by decide +kernel) rfl rfl (Nat.le_of_ble_eq_true rfl) ?_
  intro p e s m below meth c ls C hK hW hl
  exact k_X11_clash_0 C hK hW hl hq
theorem k_X11_once_b2 {Q : Int32 → hp → Prop} {X2 : Int32 × hp → Prop} (C : kC p s m args meth c cX11_once 2 (some .int) RX11 wUX11_once) (hK : kK G s) (hX2 : ∀ (x1 : Int32) (h : hp) (H : Heap) (locs : List Loc) (ls : Array Slot), kW SC G h (aS SC G) s H locs → lv_has ls 2 [(0, .ref (G.2.2 0)), (1, .int x1)] → X2 (x1, h) → W p l e rmX11_once s m args below meth c H locs 0 0 (MQ below (va_Qi Q (kB SC G) (aS SC G)) args s 0 0 (aS SC G)) (F0 m 2 ls [])) {x1 : Int32} {h : hp} {H : Heap} {locs : List Loc} {ls : Array Slot} (hW : kW SC G h (aS SC G) s H locs) (hl : lv_has ls 2 [(0, .ref (G.2.2 0)), (1, .int x1)]) (hq : w_X11_once_b2 Q X2 x1 h) : W p l e rmX11_once s m args below meth c H locs 0 0 (MQ below (va_Qi Q (kB SC G) (aS SC G)) args s 0 0 (aS SC G)) (F0 m 2 ls []) := by
  have hx := C.1
  have hb := C.2.1
  unfold w_X11_once_b2 at hq
  refine lv_iload_n hx hb dX11_once_2 rfl (lv_at hl 1 rfl) ?_
  refine lv_sipush (v := 999) hx hb dX11_once_3 (by decide) ?_
  refine lv_icmp_gt (tgt := 31) hx hb dX11_once_6 (by decide) (fun c1 => ?_) (fun c1 => ?_)
  · have hq := hq.1 c1
    refine lv_bipush (v := (-2)) hx hb dX11_once_31 (by decide) ?_
    exact k_iret rfl C hW dX11_once_33 hq
  · have hq := hq.2 c1
    refine lv_aload_n hx hb dX11_once_9 rfl (lv_at hl 0 rfl) ?_
    refine gt11_9 C hK hW (rfl : shC 0 = 11) (List.mem_cons_of_mem _ mw35) (fun _ h9 => List.mem_cons_of_mem _ (inU_wsX110 _ h9)) dX11_once_10 ?_
    refine lv_iload_n hx hb dX11_once_13 rfl (lv_at hl 1 rfl) ?_
    refine lv_iconst (v := 1) hx hb dX11_once_14 (by decide) ?_
    refine k_ci hW (va_runV (As := [.int x1, .int 1]) (rest := []) (k_fix C) (c_X10_clashing l G h x1 1 _ hq) (cwV 2 C.2.2.2.2.2.1 (gU_V mw850 mw851 mw852 mw34 mw853) rfl rfl rfl (by decide +kernel) ⟨Nat.le_of_ble_eq_true rfl, Nat.le_of_ble_eq_true rfl⟩) (k_preV hK hW (shC_lt (rfl : shC 64 = 10) (by decide)) (ceC_10 (rfl : shC 64 = 10)) (q := (RX10, TX10, 7)) rfl) rfl rfl hl.1 rfl (lv_room (Nat.le_of_ble_eq_true rfl)) dX11_once_15 ⟨Nat.le_refl 0, Nat.le_refl 0⟩) (fun r3 h2 H locs hq hW => ?_)
    refine lv_bipush (v := (-2)) hx hb dX11_once_18 (by decide) ?_
    refine lv_icmp_ne (tgt := 25) hx hb dX11_once_20 (by decide) (fun c4 => ?_) (fun c4 => ?_)
    · have hq := hq.1 c4
      obtain ⟨x1_5, ex1_5⟩ : ∃ y : Int32, y = x1 + 1 := ⟨_, rfl⟩
      have hq := hq x1_5 ex1_5
      refine lv_iinc (v := x1_5) (lv' := [(1, .int x1_5), (0, .ref (G.2.2 0))]) hx hb dX11_once_25 hl (k := 1) rfl (by rw [ex1_5]; rfl) (by decide) rfl (fun ls hl => ?_)
      refine lv_goto (tgt := 2) hx hb dX11_once_28 (by decide) ?_
      exact hX2 _ _ _ _ _ hW (lv_sub hl [1, 0] rfl) hq
    · have hq := hq.2 c4
      refine lv_iload_n hx hb dX11_once_23 rfl (lv_at hl 1 rfl) ?_
      exact k_iret rfl C hW dX11_once_24 hq
theorem k_X11_once_2 {Q : Int32 → hp → Prop} (C : kC p s m args meth c cX11_once 2 (some .int) RX11 wUX11_once) (hK : kK G s) {x1 : Int32} {h : hp} {H : Heap} {locs : List Loc} {ls : Array Slot} (hW : kW SC G h (aS SC G) s H locs) (hl : lv_has ls 2 [(0, .ref (G.2.2 0)), (1, .int x1)]) (hq : w_X11_once_2 Q x1 h) : W p l e rmX11_once s m args below meth c H locs 0 0 (MQ below (va_Qi Q (kB SC G) (aS SC G)) args s 0 0 (aS SC G)) (F0 m 2 ls []) := by
  have key := hq (fun (q : Int32 × hp) => ∀ (H : Heap) (locs : List Loc) (ls : Array Slot), kW SC G q.2 (aS SC G) s H locs → lv_has ls 2 [(0, .ref (G.2.2 0)), (1, .int q.1)] → W p l e rmX11_once s m args below meth c H locs 0 0 (MQ below (va_Qi Q (kB SC G) (aS SC G)) args s 0 0 (aS SC G)) (F0 m 2 ls []))
    (fun q hq H locs ls hW hl => k_X11_once_b2 C hK (fun x1 h H locs ls hW hl hI => hI H locs ls hW hl) hW hl hq)
  exact key _ _ _ hW hl
theorem k_X11_once_0 {Q : Int32 → hp → Prop} {h : hp} (C : kC p s m args meth c cX11_once 2 (some .int) RX11 wUX11_once) (hK : kK G s) {H : Heap} {locs : List Loc} {ls : Array Slot} (hW : kW SC G h (aS SC G) s H locs) (hl : lv_has ls 2 [(0, .ref (G.2.2 0))]) (hq : w_X11_once_0 Q h) : W p l e rmX11_once s m args below meth c H locs 0 0 (MQ below (va_Qi Q (kB SC G) (aS SC G)) args s 0 0 (aS SC G)) (F0 m 0 ls []) := by
  have hx := C.1
  have hb := C.2.1
  unfold w_X11_once_0 at hq
  refine lv_iconst (v := 0) hx hb dX11_once_0 (by decide) ?_
  refine lv_istore_n (lv' := [(1, .int 0), (0, .ref (G.2.2 0))]) hx hb dX11_once_1 rfl hl (by decide) rfl (fun ls hl => ?_)
  exact k_X11_once_2 C hK hW (lv_sub hl [1, 0] rfl) hq
theorem c_X11_once (l : Launch) (G : wG) (h : hp) (Q : Int32 → hp → Prop) (hq : w_X11_once h Q) : ctI l SC G yX11_once wUX11_once rmX11_once h [.ref (G.2.2 0)] Q := by
  refine k_start (cc := cX11_once) (maxL := 2) (rt := (some .int)) (own := RX11) (by decide +kernel) rfl rfl (Nat.le_of_ble_eq_true rfl) ?_
  intro p e s m below meth c ls C hK hW hl
  exact k_X11_once_0 C hK hW hl hq
theorem k_X11_few_0 {Q : Int32 → hp → Prop} {x1 : Int32} {h : hp} (C : kC p s m args meth c cX11_few 2 (some .int) RX11 wUX11_few) (hK : kK G s) {H : Heap} {locs : List Loc} {ls : Array Slot} (hW : kW SC G h (aS SC G) s H locs) (hl : lv_has ls 2 [(0, .ref (G.2.2 0)), (1, .int x1)]) (hq : w_X11_few_0 Q x1 h) : W p l e rmX11_few s m args below meth c H locs 0 0 (MQ below (va_Qi Q (kB SC G) (aS SC G)) args s 0 0 (aS SC G)) (F0 m 0 ls []) := by
  have hx := C.1
  have hb := C.2.1
  unfold w_X11_few_0 at hq
  refine lv_iload_n hx hb dX11_few_0 rfl (lv_at hl 1 rfl) ?_
  refine lv_i2l (v := x1.toInt64) hx hb dX11_few_1 rfl ?_
  refine lv_lconst (v := 0) hx hb dX11_few_2 (by decide) ?_
  refine lv_ldc2 (v := 4) hx hb C.2.2.2.2.1 (C.2.2.2.2.2.1 _ (List.mem_cons_of_mem _ mw969)) dX11_few_3 ?_
  refine k_ci hW (va_runS (As := [.long (x1.toInt64), .long 0, .long 4]) (rest := []) (k_fix C) (c_X11_within l G h (x1.toInt64) 0 4 _ hq) (va_cwS 3 C.2.2.2.2.2.1 (gU_S mw780 mw446 mw2 mw447) rfl rfl rfl (by decide +kernel) ⟨Nat.le_of_ble_eq_true rfl, Nat.le_of_ble_eq_true rfl⟩) (k_preS hK hW) rfl rfl hl.1 rfl (lv_room (Nat.le_of_ble_eq_true rfl)) dX11_few_6 ⟨Nat.le_refl 0, Nat.le_refl 0⟩) (fun r1 h2 H locs hq hW => ?_)
  rw [hq.1] at hW
  have hq := hq.2
  refine lv_if_eq (tgt := 23) hx hb dX11_few_9 (by decide) (fun c3 => ?_) (fun c3 => ?_)
  · have hq := hq.1 c3
    refine lv_iconst (v := (-1)) hx hb dX11_few_23 (by decide) ?_
    exact k_iret rfl C hW dX11_few_24 hq
  · have hq := hq.2 c3
    refine lv_aload_n hx hb dX11_few_12 rfl (lv_at hl 0 rfl) ?_
    refine gt11_9 C hK hW (rfl : shC 0 = 11) (List.mem_cons_of_mem _ mw35) (fun _ h9 => List.mem_cons_of_mem _ (inU_wsX110 _ h9)) dX11_few_13 ?_
    refine lv_iload_n hx hb dX11_few_16 rfl (lv_at hl 1 rfl) ?_
    refine k_ci hW (va_runV (As := [.int x1]) (rest := []) (k_fix C) (c_X10_fewestNumbers l G h x1 _ hq) (cwV 1 C.2.2.2.2.2.1 (gU_V mw1098 mw1099 mw1100 mw34 mw1101) rfl rfl rfl (by decide +kernel) ⟨Nat.le_of_ble_eq_true rfl, Nat.le_of_ble_eq_true rfl⟩) (k_preV hK hW (shC_lt (rfl : shC 64 = 10) (by decide)) (ceC_10 (rfl : shC 64 = 10)) (q := (RX10, TX10, 7)) rfl) rfl rfl hl.1 rfl (lv_room (Nat.le_of_ble_eq_true rfl)) dX11_few_17 ⟨Nat.le_refl 0, Nat.le_refl 0⟩) (fun r5 h4 H locs hq hW => ?_)
    refine lv_goto (tgt := 24) hx hb dX11_few_20 (by decide) ?_
    exact k_iret rfl C hW dX11_few_24 hq
theorem c_X11_few (l : Launch) (G : wG) (h : hp) (x1 : Int32) (Q : Int32 → hp → Prop) (hq : w_X11_few h x1 Q) : ctI l SC G yX11_few wUX11_few rmX11_few h [.ref (G.2.2 0), .int x1] Q := by
  refine k_start (cc := cX11_few) (maxL := 2) (rt := (some .int)) (own := RX11) (by decide +kernel) rfl rfl (Nat.le_of_ble_eq_true rfl) ?_
  intro p e s m below meth c ls C hK hW hl
  exact k_X11_few_0 C hK hW hl hq
theorem k_X11_worldsAt_0 {Q : Int32 → hp → Prop} {x1 : Int32} {x2 : Int64} {h : hp} (C : kC p s m args meth c cX11_worldsAt 4 (some .int) RX11 wUX11_worldsAt) (hK : kK G s) {H : Heap} {locs : List Loc} {ls : Array Slot} (hW : kW SC G h (aS SC G) s H locs) (hl : lv_has ls 4 [(0, .ref (G.2.2 0)), (1, .int x1), (2, .long x2)]) (hq : w_X11_worldsAt_0 Q x1 x2 h) : W p l e rmX11_worldsAt s m args below meth c H locs 0 0 (MQ below (va_Qi Q (kB SC G) (aS SC G)) args s 0 0 (aS SC G)) (F0 m 0 ls []) := by
  have hx := C.1
  have hb := C.2.1
  unfold w_X11_worldsAt_0 at hq
  refine lv_iload_n hx hb dX11_worldsAt_0 rfl (lv_at hl 1 rfl) ?_
  refine lv_i2l (v := x1.toInt64) hx hb dX11_worldsAt_1 rfl ?_
  refine lv_ldc2 (v := (-99)) hx hb C.2.2.2.2.1 (C.2.2.2.2.2.1 _ (List.mem_cons_of_mem _ mw929)) dX11_worldsAt_2 ?_
  refine lv_ldc2 (v := 99) hx hb C.2.2.2.2.1 (C.2.2.2.2.2.1 _ (List.mem_cons_of_mem _ mw930)) dX11_worldsAt_5 ?_
  refine k_ci hW (va_runS (As := [.long (x1.toInt64), .long (-99), .long 99]) (rest := []) (k_fix C) (c_X11_within l G h (x1.toInt64) (-99) 99 _ hq) (va_cwS 3 C.2.2.2.2.2.1 (gU_S mw780 mw446 mw2 mw447) rfl rfl rfl (by decide +kernel) ⟨Nat.le_of_ble_eq_true rfl, Nat.le_of_ble_eq_true rfl⟩) (k_preS hK hW) rfl rfl hl.1 rfl (lv_room (Nat.le_of_ble_eq_true rfl)) dX11_worldsAt_8 ⟨Nat.le_refl 0, Nat.le_refl 0⟩) (fun r1 h2 H locs hq hW => ?_)
  rw [hq.1] at hW
  have hq := hq.2
  refine lv_if_eq (tgt := 26) hx hb dX11_worldsAt_11 (by decide) (fun c3 => ?_) (fun c3 => ?_)
  · have hq := hq.1 c3
    refine lv_iconst (v := (-1)) hx hb dX11_worldsAt_26 (by decide) ?_
    exact k_iret rfl C hW dX11_worldsAt_27 hq
  · have hq := hq.2 c3
    refine lv_aload_n hx hb dX11_worldsAt_14 rfl (lv_at hl 0 rfl) ?_
    refine gt11_9 C hK hW (rfl : shC 0 = 11) (List.mem_cons_of_mem _ mw35) (fun _ h9 => List.mem_cons_of_mem _ (inU_wsX110 _ h9)) dX11_worldsAt_15 ?_
    refine lv_iload_n hx hb dX11_worldsAt_18 rfl (lv_at hl 1 rfl) ?_
    refine lv_lload_n hx hb dX11_worldsAt_19 rfl (lv_at hl 2 rfl) ?_
    refine k_ci hW (va_runV (As := [.int x1, .long x2]) (rest := []) (k_fix C) (c_X10_howManyComeTo l G h x1 x2 _ hq) (cwV 2 C.2.2.2.2.2.1 (gU_V mw1415 mw1416 mw1417 mw34 mw1418) rfl rfl rfl (by decide +kernel) ⟨Nat.le_of_ble_eq_true rfl, Nat.le_of_ble_eq_true rfl⟩) (k_preV hK hW (shC_lt (rfl : shC 64 = 10) (by decide)) (ceC_10 (rfl : shC 64 = 10)) (q := (RX10, TX10, 7)) rfl) rfl rfl hl.1 rfl (lv_room (Nat.le_of_ble_eq_true rfl)) dX11_worldsAt_20 ⟨Nat.le_refl 0, Nat.le_refl 0⟩) (fun r5 h4 H locs hq hW => ?_)
    refine lv_goto (tgt := 27) hx hb dX11_worldsAt_23 (by decide) ?_
    exact k_iret rfl C hW dX11_worldsAt_27 hq
theorem c_X11_worldsAt (l : Launch) (G : wG) (h : hp) (x1 : Int32) (x2 : Int64) (Q : Int32 → hp → Prop) (hq : w_X11_worldsAt h x1 x2 Q) : ctI l SC G yX11_worldsAt wUX11_worldsAt rmX11_worldsAt h [.ref (G.2.2 0), .int x1, .long x2] Q := by
  refine k_start (cc := cX11_worldsAt) (maxL := 4) (rt := (some .int)) (own := RX11) (by decide +kernel) rfl rfl (Nat.le_of_ble_eq_true rfl) ?_
  intro p e s m below meth c ls C hK hW hl
  exact k_X11_worldsAt_0 C hK hW hl hq
theorem k_X11_game_119 {Q : Int32 → hp → Prop} {x2 : Int32} {x3 : Int32} {x4 : Int32} {h : hp} (C : kC p s m args meth c cX11_game 8 (some .int) RX11 wUX11_game) (hK : kK G s) {H : Heap} {locs : List Loc} {ls : Array Slot} (hW : kW SC G h (aS SC G) s H locs) (hl : lv_has ls 8 [(0, .ref (G.2.2 0)), (2, .int x2), (3, .int x3), (4, .int x4)]) (hq : w_X11_game_119 Q x2 x3 x4 h) : W p l e rmX11_game s m args below meth c H locs 0 0 (MQ below (va_Qi Q (kB SC G) (aS SC G)) args s 0 0 (aS SC G)) (F0 m 119 ls []) := by
  have hx := C.1
  have hb := C.2.1
  unfold w_X11_game_119 at hq
  refine lv_iload_n hx hb dX11_game_119 rfl (lv_at hl 1 rfl) ?_
  refine lv_iconst (v := 1) hx hb dX11_game_120 (by decide) ?_
  refine lv_icmp_ne (tgt := 127) hx hb dX11_game_121 (by decide) (fun c20 => ?_) (fun c20 => ?_)
  · have hq := hq.1 c20
    refine lv_aload_n hx hb dX11_game_127 rfl (lv_at hl 0 rfl) ?_
    refine gt11_10 C hK hW (rfl : shC 0 = 11) (List.mem_cons_of_mem _ mw39) (fun _ h9 => List.mem_cons_of_mem _ (inU_wsX110 _ h9)) dX11_game_128 ?_
    refine gt1_1 C hK hW (rfl : shC 71 = 1) (List.mem_cons_of_mem _ mw962) (fun _ h9 => List.mem_cons_of_mem _ (inU_wsX10 _ h9)) dX11_game_131 ?_
    refine lv_iconst (v := 1) hx hb dX11_game_134 (by decide) ?_
    refine lv_icmp_le (tgt := 143) hx hb dX11_game_135 (by decide) (fun c21 => ?_) (fun c21 => ?_)
    · have hq := hq.1 c21
      refine lv_iload_n hx hb dX11_game_143 rfl (lv_at hl 2 rfl) ?_
      exact k_iret rfl C hW dX11_game_144 hq
    · have hq := hq.2 c21
      refine lv_bipush (v := (-2)) hx hb dX11_game_138 (by decide) ?_
      refine lv_goto (tgt := 144) hx hb dX11_game_140 (by decide) ?_
      exact k_iret rfl C hW dX11_game_144 hq
  · have hq := hq.2 c20
    refine lv_iload hx hb dX11_game_124 (lv_at hl 3 rfl) ?_
    exact k_iret rfl C hW dX11_game_126 hq
theorem k_X11_game_b38 {Q : Int32 → hp → Prop} {X38 : Int32 × Int32 × Int32 × Int64 × hp → Prop} {x1 : Int32} {x2 : Int32} (C : kC p s m args meth c cX11_game 8 (some .int) RX11 wUX11_game) (hK : kK G s) (hX38 : ∀ (x3 : Int32) (x4 : Int32) (x5 : Int32) (x6 : Int64) (h : hp) (H : Heap) (locs : List Loc) (ls : Array Slot), kW SC G h (aS SC G) s H locs → lv_has ls 8 [(0, .ref (G.2.2 0)), (1, .int x1), (2, .int x2), (3, .int x3), (4, .int x4), (5, .int x5), (6, .long x6)] → X38 (x3, x4, x5, x6, h) → W p l e rmX11_game s m args below meth c H locs 0 0 (MQ below (va_Qi Q (kB SC G) (aS SC G)) args s 0 0 (aS SC G)) (F0 m 38 ls [])) {x3 : Int32} {x4 : Int32} {x5 : Int32} {x6 : Int64} {h : hp} {H : Heap} {locs : List Loc} {ls : Array Slot} (hW : kW SC G h (aS SC G) s H locs) (hl : lv_has ls 8 [(0, .ref (G.2.2 0)), (1, .int x1), (2, .int x2), (3, .int x3), (4, .int x4), (5, .int x5), (6, .long x6)]) (hq : w_X11_game_b38 Q x1 x2 X38 x3 x4 x5 x6 h) : W p l e rmX11_game s m args below meth c H locs 0 0 (MQ below (va_Qi Q (kB SC G) (aS SC G)) args s 0 0 (aS SC G)) (F0 m 38 ls []) := by
  have hx := C.1
  have hb := C.2.1
  unfold w_X11_game_b38 at hq
  refine lv_iload_n hx hb dX11_game_38 rfl (lv_at hl 3 rfl) ?_
  refine lv_bipush (v := 50) hx hb dX11_game_39 (by decide) ?_
  refine lv_icmp_ge (tgt := 119) hx hb dX11_game_41 (by decide) (fun c8 => ?_) (fun c8 => ?_)
  · have hq := hq.1 c8
    exact k_X11_game_119 C hK hW (lv_sub hl [0, 2, 3, 4] rfl) hq
  · have hq := hq.2 c8
    refine lv_aload_n hx hb dX11_game_44 rfl (lv_at hl 0 rfl) ?_
    refine gt11_10 C hK hW (rfl : shC 0 = 11) (List.mem_cons_of_mem _ mw39) (fun _ h9 => List.mem_cons_of_mem _ (inU_wsX110 _ h9)) dX11_game_45 ?_
    refine gt1_1 C hK hW (rfl : shC 71 = 1) (List.mem_cons_of_mem _ mw962) (fun _ h9 => List.mem_cons_of_mem _ (inU_wsX10 _ h9)) dX11_game_48 ?_
    refine lv_iconst (v := 1) hx hb dX11_game_51 (by decide) ?_
    refine lv_icmp_le (tgt := 119) hx hb dX11_game_52 (by decide) (fun c9 => ?_) (fun c9 => ?_)
    · have hq := hq.1 c9
      exact k_X11_game_119 C hK hW (lv_sub hl [0, 2, 3, 4] rfl) hq
    · have hq := hq.2 c9
      refine lv_aload_n hx hb dX11_game_55 rfl (lv_at hl 0 rfl) ?_
      refine gt11_4 C hK hW (rfl : shC 0 = 11) (List.mem_cons_of_mem _ mw24) (fun _ h9 => List.mem_cons_of_mem _ (inU_wsX110 _ h9)) dX11_game_56 ?_
      have hr10 := hq.1
      have hq := hq.2
      refine gt7_4 C hK hW hr10 (List.mem_cons_of_mem _ mw1131) (fun _ h9 => List.mem_cons_of_mem _ (inU_wsX70 _ h9)) dX11_game_59 ?_
      refine lv_iload_n hx hb dX11_game_62 rfl (lv_at hl 3 rfl) ?_
      refine lv_lload hx hb dX11_game_63 (lv_at hl 6 rfl) ?_
      refine lv_iload hx hb dX11_game_65 (lv_at hl 5 rfl) ?_
      refine k_ci hW (va_runV (As := [.int x3, .long x6, .int x5]) (rest := []) (k_fix C) (c_X2_question l G (sl7_4 hr10) h x3 x6 x5 _ hq) (cwV 3 C.2.2.2.2.2.1 (gU_V mw1137 mw1138 mw1139 mw69 mw1140) rfl rfl rfl (by decide +kernel) ⟨Nat.le_of_ble_eq_true rfl, Nat.le_of_ble_eq_true rfl⟩) (k_preV hK hW (shC_lt (sl7_4 hr10) (by decide)) (ceC_2 (sl7_4 hr10)) (q := (RX2, TX2, 5)) rfl) rfl rfl hl.1 rfl (lv_room (Nat.le_of_ble_eq_true rfl)) dX11_game_67 ⟨Nat.le_refl 0, Nat.le_refl 0⟩) (fun r12 h11 H locs hq hW => ?_)
      refine lv_istore (lv' := [(5, .int r12), (0, .ref (G.2.2 0)), (1, .int x1), (2, .int x2), (3, .int x3), (4, .int x4), (6, .long x6)]) hx hb dX11_game_70 hl (by decide) rfl (fun ls hl => ?_)
      refine lv_aload_n hx hb dX11_game_72 rfl (lv_at hl 1 rfl) ?_
      refine gt11_9 C hK hW (rfl : shC 0 = 11) (List.mem_cons_of_mem _ mw35) (fun _ h9 => List.mem_cons_of_mem _ (inU_wsX110 _ h9)) dX11_game_73 ?_
      refine lv_iload hx hb dX11_game_76 (lv_at hl 0 rfl) ?_
      refine lv_i2l (v := r12.toInt64) hx hb dX11_game_78 rfl ?_
      refine k_cv hW (va_runV (As := [.long (r12.toInt64)]) (rest := []) (k_fix C) (c_X10_comeBy l G h11 (r12.toInt64) _ hq) (cwV 1 C.2.2.2.2.2.1 (gU_V mw1142 mw855 mw856 mw34 mw857) rfl rfl rfl (by decide +kernel) ⟨Nat.le_of_ble_eq_true rfl, Nat.le_of_ble_eq_true rfl⟩) (k_preV hK hW (shC_lt (rfl : shC 64 = 10) (by decide)) (ceC_10 (rfl : shC 64 = 10)) (q := (RX10, TX10, 7)) rfl) rfl rfl hl.1 rfl (lv_room (Nat.le_of_ble_eq_true rfl)) dX11_game_79 ⟨Nat.le_refl 0, Nat.le_refl 0⟩) (fun h13 H locs hq hW => ?_)
      refine lv_aload_n hx hb dX11_game_82 rfl (lv_at hl 1 rfl) ?_
      refine gt11_9 C hK hW (rfl : shC 0 = 11) (List.mem_cons_of_mem _ mw35) (fun _ h9 => List.mem_cons_of_mem _ (inU_wsX110 _ h9)) dX11_game_83 ?_
      refine gt10_3 C hK hW (rfl : shC 64 = 10) (List.mem_cons_of_mem _ mw1132) (fun _ h9 => List.mem_cons_of_mem _ (inU_wsX100 _ h9)) dX11_game_86 ?_
      refine lv_iload_n hx hb dX11_game_89 rfl (lv_at hl 2 rfl) ?_
      refine k_lald C hK hW (shC_lt (rfl : shC 65 = 15) (by decide)) (ceC_15 (rfl : shC 65 = 15) (rfl : lnC 65 = 10000)) hq.1 dX11_game_90 ?_
      have hq := hq.2
      refine lv_topl (fun x6_14 ex6_14 => ?_)
      have hq := hq x6_14 ex6_14
      refine lv_lstore (lv' := [(6, .long x6_14), (5, .int r12), (0, .ref (G.2.2 0)), (1, .int x1), (2, .int x2), (3, .int x3), (4, .int x4)]) hx hb dX11_game_91 hl (by decide) rfl (fun ls hl => ?_)
      refine lv_aload_n hx hb dX11_game_93 rfl (lv_at hl 2 rfl) ?_
      refine gt11_10 C hK hW (rfl : shC 0 = 11) (List.mem_cons_of_mem _ mw39) (fun _ h9 => List.mem_cons_of_mem _ (inU_wsX110 _ h9)) dX11_game_94 ?_
      refine lv_lload hx hb dX11_game_97 (lv_at hl 0 rfl) ?_
      refine k_cv hW (va_runV (As := [.long x6_14]) (rest := []) (k_fix C) (c_X1_keep l G h13 x6_14 _ hq) (cwV 1 C.2.2.2.2.2.1 (gU_V mw1143 mw1144 mw1145 mw38 mw1146) rfl rfl rfl (by decide +kernel) ⟨Nat.le_of_ble_eq_true rfl, Nat.le_of_ble_eq_true rfl⟩) (k_preV hK hW (shC_lt (rfl : shC 71 = 1) (by decide)) (ceC_1 (rfl : shC 71 = 1)) (q := (RX1, TX1, 7)) rfl) rfl rfl hl.1 rfl (lv_room (Nat.le_of_ble_eq_true rfl)) dX11_game_99 ⟨Nat.le_refl 0, Nat.le_refl 0⟩) (fun h15 H locs hq hW => ?_)
      refine lv_iload hx hb dX11_game_102 (lv_at hl 6 rfl) ?_
      refine lv_iload hx hb dX11_game_104 (lv_at hl 1 rfl) ?_
      refine lv_i2l (v := r12.toInt64) hx hb dX11_game_106 rfl ?_
      refine k_ci hW (va_runS (As := [.long (r12.toInt64)]) (rest := [.int x4]) (k_fix C) (c_X11_figuresOf l G h15 (r12.toInt64) _ hq) (va_cwS 1 C.2.2.2.2.2.1 (gU_S mw808 mw809 mw2 mw810) rfl rfl rfl (by decide +kernel) ⟨Nat.le_of_ble_eq_true rfl, Nat.le_of_ble_eq_true rfl⟩) (k_preS hK hW) rfl rfl hl.1 rfl (lv_room (Nat.le_of_ble_eq_true rfl)) dX11_game_107 ⟨Nat.le_refl 0, Nat.le_refl 0⟩) (fun r16 h17 H locs hq hW => ?_)
      rw [hq.1] at hW
      have hq := hq.2
      refine lv_iadd hx hb dX11_game_110 ?_
      refine lv_topi (fun x4_18 ex4_18 => ?_)
      have hq := hq x4_18 ex4_18
      refine lv_istore (lv' := [(4, .int x4_18), (6, .long x6_14), (5, .int r12), (0, .ref (G.2.2 0)), (1, .int x1), (2, .int x2), (3, .int x3)]) hx hb dX11_game_111 hl (by decide) rfl (fun ls hl => ?_)
      obtain ⟨x3_19, ex3_19⟩ : ∃ y : Int32, y = x3 + 1 := ⟨_, rfl⟩
      have hq := hq x3_19 ex3_19
      refine lv_iinc (v := x3_19) (lv' := [(3, .int x3_19), (4, .int x4_18), (6, .long x6_14), (5, .int r12), (0, .ref (G.2.2 0)), (1, .int x1), (2, .int x2)]) hx hb dX11_game_113 hl (k := 6) rfl (by rw [ex3_19]; rfl) (by decide) rfl (fun ls hl => ?_)
      refine lv_goto (tgt := 38) hx hb dX11_game_116 (by decide) ?_
      exact hX38 _ _ _ _ _ _ _ _ hW (lv_sub hl [4, 5, 6, 0, 1, 3, 2] rfl) hq
theorem k_X11_game_38 {Q : Int32 → hp → Prop} {x1 : Int32} {x2 : Int32} (C : kC p s m args meth c cX11_game 8 (some .int) RX11 wUX11_game) (hK : kK G s) {x3 : Int32} {x4 : Int32} {x5 : Int32} {x6 : Int64} {h : hp} {H : Heap} {locs : List Loc} {ls : Array Slot} (hW : kW SC G h (aS SC G) s H locs) (hl : lv_has ls 8 [(0, .ref (G.2.2 0)), (1, .int x1), (2, .int x2), (3, .int x3), (4, .int x4), (5, .int x5), (6, .long x6)]) (hq : w_X11_game_38 Q x1 x2 x3 x4 x5 x6 h) : W p l e rmX11_game s m args below meth c H locs 0 0 (MQ below (va_Qi Q (kB SC G) (aS SC G)) args s 0 0 (aS SC G)) (F0 m 38 ls []) := by
  have key := hq (fun (q : Int32 × Int32 × Int32 × Int64 × hp) => ∀ (H : Heap) (locs : List Loc) (ls : Array Slot), kW SC G q.2.2.2.2 (aS SC G) s H locs → lv_has ls 8 [(0, .ref (G.2.2 0)), (1, .int x1), (2, .int x2), (3, .int q.1), (4, .int q.2.1), (5, .int q.2.2.1), (6, .long q.2.2.2.1)] → W p l e rmX11_game s m args below meth c H locs 0 0 (MQ below (va_Qi Q (kB SC G) (aS SC G)) args s 0 0 (aS SC G)) (F0 m 38 ls []))
    (fun q hq H locs ls hW hl => k_X11_game_b38 C hK (fun x3 x4 x5 x6 h H locs ls hW hl hI => hI H locs ls hW hl) hW hl hq)
  exact key _ _ _ hW hl
theorem k_X11_game_0 {Q : Int32 → hp → Prop} {x1 : Int32} {x2 : Int32} {h : hp} (C : kC p s m args meth c cX11_game 8 (some .int) RX11 wUX11_game) (hK : kK G s) {H : Heap} {locs : List Loc} {ls : Array Slot} (hW : kW SC G h (aS SC G) s H locs) (hl : lv_has ls 8 [(0, .ref (G.2.2 0)), (1, .int x1), (2, .int x2)]) (hq : w_X11_game_0 Q x1 x2 h) : W p l e rmX11_game s m args below meth c H locs 0 0 (MQ below (va_Qi Q (kB SC G) (aS SC G)) args s 0 0 (aS SC G)) (F0 m 0 ls []) := by
  have hx := C.1
  have hb := C.2.1
  unfold w_X11_game_0 at hq
  refine lv_aload_n hx hb dX11_game_0 rfl (lv_at hl 0 rfl) ?_
  refine lv_iload_n hx hb dX11_game_1 rfl (lv_at hl 1 rfl) ?_
  refine k_ci hW (va_runV (As := [.int x1]) (rest := []) (k_fix C) (c_X11_isWorld l G h x1 _ hq) (cwV 1 C.2.2.2.2.2.1 (gU_V mw912 mw913 mw914 mw2 mw915) rfl rfl rfl (by decide +kernel) ⟨Nat.le_of_ble_eq_true rfl, Nat.le_of_ble_eq_true rfl⟩) (k_preV hK hW (shC_lt (rfl : shC 0 = 11) (by decide)) (ceC_11 (rfl : shC 0 = 11)) (q := (RX11, TX11, 11)) rfl) rfl rfl hl.1 rfl (lv_room (Nat.le_of_ble_eq_true rfl)) dX11_game_2 ⟨Nat.le_refl 0, Nat.le_refl 0⟩) (fun r1 h2 H locs hq hW => ?_)
  rw [hq.1] at hW
  have hq := hq.2
  refine lv_if_eq (tgt := 18) hx hb dX11_game_5 (by decide) (fun c3 => ?_) (fun c3 => ?_)
  · have hq := hq.1 c3
    refine lv_iconst (v := (-1)) hx hb dX11_game_18 (by decide) ?_
    exact k_iret rfl C hW dX11_game_19 hq
  · have hq := hq.2 c3
    refine lv_iload_n hx hb dX11_game_8 rfl (lv_at hl 2 rfl) ?_
    refine lv_i2l (v := x2.toInt64) hx hb dX11_game_9 rfl ?_
    refine lv_lconst (v := 0) hx hb dX11_game_10 (by decide) ?_
    refine lv_lconst (v := 1) hx hb dX11_game_11 (by decide) ?_
    refine k_ci hW (va_runS (As := [.long (x2.toInt64), .long 0, .long 1]) (rest := []) (k_fix C) (c_X11_within l G h (x2.toInt64) 0 1 _ hq) (va_cwS 3 C.2.2.2.2.2.1 (gU_S mw780 mw446 mw2 mw447) rfl rfl rfl (by decide +kernel) ⟨Nat.le_of_ble_eq_true rfl, Nat.le_of_ble_eq_true rfl⟩) (k_preS hK hW) rfl rfl hl.1 rfl (lv_room (Nat.le_of_ble_eq_true rfl)) dX11_game_12 ⟨Nat.le_refl 0, Nat.le_refl 0⟩) (fun r4 h5 H locs hq hW => ?_)
    rw [hq.1] at hW
    have hq := hq.2
    refine lv_if_ne (tgt := 20) hx hb dX11_game_15 (by decide) (fun c6 => ?_) (fun c6 => ?_)
    · have hq := hq.1 c6
      refine lv_aload_n hx hb dX11_game_20 rfl (lv_at hl 0 rfl) ?_
      refine gt11_10 C hK hW (rfl : shC 0 = 11) (List.mem_cons_of_mem _ mw39) (fun _ h9 => List.mem_cons_of_mem _ (inU_wsX110 _ h9)) dX11_game_21 ?_
      refine k_cv hW (va_runV (As := []) (rest := []) (k_fix C) (c_X1_takeAll l G h _ hq) (cwV 0 C.2.2.2.2.2.1 (gU_V mw1133 mw1134 mw1135 mw38 mw1136) rfl rfl rfl (by decide +kernel) ⟨Nat.le_of_ble_eq_true rfl, Nat.le_of_ble_eq_true rfl⟩) (k_preV hK hW (shC_lt (rfl : shC 71 = 1) (by decide)) (ceC_1 (rfl : shC 71 = 1)) (q := (RX1, TX1, 7)) rfl) rfl rfl hl.1 rfl (lv_room (Nat.le_of_ble_eq_true rfl)) dX11_game_24 ⟨Nat.le_refl 0, Nat.le_refl 0⟩) (fun h7 H locs hq hW => ?_)
      refine lv_iconst (v := 0) hx hb dX11_game_27 (by decide) ?_
      refine lv_istore_n (lv' := [(3, .int 0), (0, .ref (G.2.2 0)), (1, .int x1), (2, .int x2)]) hx hb dX11_game_28 rfl hl (by decide) rfl (fun ls hl => ?_)
      refine lv_iconst (v := 0) hx hb dX11_game_29 (by decide) ?_
      refine lv_istore (lv' := [(4, .int 0), (3, .int 0), (0, .ref (G.2.2 0)), (1, .int x1), (2, .int x2)]) hx hb dX11_game_30 hl (by decide) rfl (fun ls hl => ?_)
      refine lv_iconst (v := 0) hx hb dX11_game_32 (by decide) ?_
      refine lv_istore (lv' := [(5, .int 0), (4, .int 0), (3, .int 0), (0, .ref (G.2.2 0)), (1, .int x1), (2, .int x2)]) hx hb dX11_game_33 hl (by decide) rfl (fun ls hl => ?_)
      refine lv_lconst (v := 0) hx hb dX11_game_35 (by decide) ?_
      refine lv_lstore (lv' := [(6, .long 0), (5, .int 0), (4, .int 0), (3, .int 0), (0, .ref (G.2.2 0)), (1, .int x1), (2, .int x2)]) hx hb dX11_game_36 hl (by decide) rfl (fun ls hl => ?_)
      exact k_X11_game_38 C hK hW (lv_sub hl [4, 5, 6, 3, 2, 1, 0] rfl) hq
    · have hq := hq.2 c6
      refine lv_iconst (v := (-1)) hx hb dX11_game_18 (by decide) ?_
      exact k_iret rfl C hW dX11_game_19 hq
theorem c_X11_game (l : Launch) (G : wG) (h : hp) (x1 : Int32) (x2 : Int32) (Q : Int32 → hp → Prop) (hq : w_X11_game h x1 x2 Q) : ctI l SC G yX11_game wUX11_game rmX11_game h [.ref (G.2.2 0), .int x1, .int x2] Q := by
  refine k_start (cc := cX11_game) (maxL := 8) (rt := (some .int)) (own := RX11) (by decide +kernel) rfl rfl (Nat.le_of_ble_eq_true rfl) ?_
  intro p e s m below meth c ls C hK hW hl
  exact k_X11_game_0 C hK hW hl hq
theorem k_X11_tell_0 {Q : Int32 → hp → Prop} {x1 : Int32} {x2 : Int64} {h : hp} (C : kC p s m args meth c cX11_tell 4 (some .int) RX11 wUX11_tell) (hK : kK G s) {H : Heap} {locs : List Loc} {ls : Array Slot} (hW : kW SC G h (aS SC G) s H locs) (hl : lv_has ls 4 [(0, .ref (G.2.2 0)), (1, .int x1), (2, .long x2)]) (hq : w_X11_tell_0 Q x1 x2 h) : W p l e rmX11_tell s m args below meth c H locs 0 0 (MQ below (va_Qi Q (kB SC G) (aS SC G)) args s 0 0 (aS SC G)) (F0 m 0 ls []) := by
  have hx := C.1
  have hb := C.2.1
  unfold w_X11_tell_0 at hq
  refine lv_aload_n hx hb dX11_tell_0 rfl (lv_at hl 0 rfl) ?_
  refine gt11_5 C hK hW (rfl : shC 0 = 11) (List.mem_cons_of_mem _ mw28) (fun _ h9 => List.mem_cons_of_mem _ (inU_wsX110 _ h9)) dX11_tell_1 ?_
  refine k_ci hW (va_runV (As := []) (rest := []) (k_fix C) (c_X9_isFull l G (rfl : shC 51 = 9) h _ hq) (cwV 0 C.2.2.2.2.2.1 (gU_V mw934 mw935 mw936 mw27 mw937) rfl rfl rfl (by decide +kernel) ⟨Nat.le_of_ble_eq_true rfl, Nat.le_of_ble_eq_true rfl⟩) (k_preV hK hW (shC_lt (rfl : shC 51 = 9) (by decide)) (ceC_9 (rfl : shC 51 = 9)) (q := (RX9, TX9, 4)) rfl) rfl rfl hl.1 rfl (lv_room (Nat.le_of_ble_eq_true rfl)) dX11_tell_4 ⟨Nat.le_refl 0, Nat.le_refl 0⟩) (fun r1 h2 H locs hq hW => ?_)
  rw [hq.1] at hW
  have hq := hq.2
  refine lv_if_ne (tgt := 37) hx hb dX11_tell_7 (by decide) (fun c3 => ?_) (fun c3 => ?_)
  · have hq := hq.1 c3
    refine lv_iconst (v := (-1)) hx hb dX11_tell_37 (by decide) ?_
    exact k_iret rfl C hW dX11_tell_38 hq
  · have hq := hq.2 c3
    refine lv_iload_n hx hb dX11_tell_10 rfl (lv_at hl 1 rfl) ?_
    refine lv_i2l (v := x1.toInt64) hx hb dX11_tell_11 rfl ?_
    refine lv_ldc2 (v := (-99)) hx hb C.2.2.2.2.1 (C.2.2.2.2.2.1 _ (List.mem_cons_of_mem _ mw929)) dX11_tell_12 ?_
    refine lv_ldc2 (v := 99) hx hb C.2.2.2.2.1 (C.2.2.2.2.2.1 _ (List.mem_cons_of_mem _ mw930)) dX11_tell_15 ?_
    refine k_ci hW (va_runS (As := [.long (x1.toInt64), .long (-99), .long 99]) (rest := []) (k_fix C) (c_X11_within l G h (x1.toInt64) (-99) 99 _ hq) (va_cwS 3 C.2.2.2.2.2.1 (gU_S mw780 mw446 mw2 mw447) rfl rfl rfl (by decide +kernel) ⟨Nat.le_of_ble_eq_true rfl, Nat.le_of_ble_eq_true rfl⟩) (k_preS hK hW) rfl rfl hl.1 rfl (lv_room (Nat.le_of_ble_eq_true rfl)) dX11_tell_18 ⟨Nat.le_refl 0, Nat.le_refl 0⟩) (fun r4 h5 H locs hq hW => ?_)
    rw [hq.1] at hW
    have hq := hq.2
    refine lv_if_eq (tgt := 37) hx hb dX11_tell_21 (by decide) (fun c6 => ?_) (fun c6 => ?_)
    · have hq := hq.1 c6
      refine lv_iconst (v := (-1)) hx hb dX11_tell_37 (by decide) ?_
      exact k_iret rfl C hW dX11_tell_38 hq
    · have hq := hq.2 c6
      refine lv_lload_n hx hb dX11_tell_24 rfl (lv_at hl 2 rfl) ?_
      refine lv_ldc2 (v := (-1000000000000000)) hx hb C.2.2.2.2.1 (C.2.2.2.2.2.1 _ (List.mem_cons_of_mem _ mw931)) dX11_tell_25 ?_
      refine lv_ldc2 (v := 1000000000000000) hx hb C.2.2.2.2.1 (C.2.2.2.2.2.1 _ (List.mem_cons_of_mem _ mw932)) dX11_tell_28 ?_
      refine k_ci hW (va_runS (As := [.long x2, .long (-1000000000000000), .long 1000000000000000]) (rest := []) (k_fix C) (c_X11_within l G h x2 (-1000000000000000) 1000000000000000 _ hq) (va_cwS 3 C.2.2.2.2.2.1 (gU_S mw780 mw446 mw2 mw447) rfl rfl rfl (by decide +kernel) ⟨Nat.le_of_ble_eq_true rfl, Nat.le_of_ble_eq_true rfl⟩) (k_preS hK hW) rfl rfl hl.1 rfl (lv_room (Nat.le_of_ble_eq_true rfl)) dX11_tell_31 ⟨Nat.le_refl 0, Nat.le_refl 0⟩) (fun r7 h8 H locs hq hW => ?_)
      rw [hq.1] at hW
      have hq := hq.2
      refine lv_if_ne (tgt := 39) hx hb dX11_tell_34 (by decide) (fun c9 => ?_) (fun c9 => ?_)
      · have hq := hq.1 c9
        refine lv_aload_n hx hb dX11_tell_39 rfl (lv_at hl 0 rfl) ?_
        refine gt11_5 C hK hW (rfl : shC 0 = 11) (List.mem_cons_of_mem _ mw28) (fun _ h9 => List.mem_cons_of_mem _ (inU_wsX110 _ h9)) dX11_tell_40 ?_
        refine lv_iload_n hx hb dX11_tell_43 rfl (lv_at hl 1 rfl) ?_
        refine lv_lload_n hx hb dX11_tell_44 rfl (lv_at hl 2 rfl) ?_
        refine k_cv hW (va_runV (As := [.int x1, .long x2]) (rest := []) (k_fix C) (c_X9_add l G (rfl : shC 51 = 9) h x1 x2 _ hq) (cwV 2 C.2.2.2.2.2.1 (gU_V mw938 mw939 mw940 mw27 mw941) rfl rfl rfl (by decide +kernel) ⟨Nat.le_of_ble_eq_true rfl, Nat.le_of_ble_eq_true rfl⟩) (k_preV hK hW (shC_lt (rfl : shC 51 = 9) (by decide)) (ceC_9 (rfl : shC 51 = 9)) (q := (RX9, TX9, 4)) rfl) rfl rfl hl.1 rfl (lv_room (Nat.le_of_ble_eq_true rfl)) dX11_tell_45 ⟨Nat.le_refl 0, Nat.le_refl 0⟩) (fun h10 H locs hq hW => ?_)
        refine lv_aload_n hx hb dX11_tell_48 rfl (lv_at hl 0 rfl) ?_
        refine gt11_5 C hK hW (rfl : shC 0 = 11) (List.mem_cons_of_mem _ mw28) (fun _ h9 => List.mem_cons_of_mem _ (inU_wsX110 _ h9)) dX11_tell_49 ?_
        refine gt9_0 C hK hW (rfl : shC 51 = 9) (List.mem_cons_of_mem _ mw933) (fun _ h9 => List.mem_cons_of_mem _ (inU_wsX90 _ h9)) dX11_tell_52 ?_
        refine lv_iconst (v := 1) hx hb dX11_tell_55 (by decide) ?_
        refine lv_isub hx hb dX11_tell_56 ?_
        exact k_iret rfl C hW dX11_tell_57 hq
      · have hq := hq.2 c9
        refine lv_iconst (v := (-1)) hx hb dX11_tell_37 (by decide) ?_
        exact k_iret rfl C hW dX11_tell_38 hq
theorem c_X11_tell (l : Launch) (G : wG) (h : hp) (x1 : Int32) (x2 : Int64) (Q : Int32 → hp → Prop) (hq : w_X11_tell h x1 x2 Q) : ctI l SC G yX11_tell wUX11_tell rmX11_tell h [.ref (G.2.2 0), .int x1, .long x2] Q := by
  refine k_start (cc := cX11_tell) (maxL := 4) (rt := (some .int)) (own := RX11) (by decide +kernel) rfl rfl (Nat.le_of_ble_eq_true rfl) ?_
  intro p e s m below meth c ls C hK hW hl
  exact k_X11_tell_0 C hK hW hl hq
theorem k_X11_forget_0 {Q : Int32 → hp → Prop} {h : hp} (C : kC p s m args meth c cX11_forget 2 (some .int) RX11 wUX11_forget) (hK : kK G s) {H : Heap} {locs : List Loc} {ls : Array Slot} (hW : kW SC G h (aS SC G) s H locs) (hl : lv_has ls 2 [(0, .ref (G.2.2 0))]) (hq : w_X11_forget_0 Q h) : W p l e rmX11_forget s m args below meth c H locs 0 0 (MQ below (va_Qi Q (kB SC G) (aS SC G)) args s 0 0 (aS SC G)) (F0 m 0 ls []) := by
  have hx := C.1
  have hb := C.2.1
  unfold w_X11_forget_0 at hq
  refine lv_aload_n hx hb dX11_forget_0 rfl (lv_at hl 0 rfl) ?_
  refine gt11_5 C hK hW (rfl : shC 0 = 11) (List.mem_cons_of_mem _ mw28) (fun _ h9 => List.mem_cons_of_mem _ (inU_wsX110 _ h9)) dX11_forget_1 ?_
  refine gt9_0 C hK hW (rfl : shC 51 = 9) (List.mem_cons_of_mem _ mw933) (fun _ h9 => List.mem_cons_of_mem _ (inU_wsX90 _ h9)) dX11_forget_4 ?_
  refine lv_topi (fun x1_1 ex1_1 => ?_)
  have hq := hq x1_1 ex1_1
  refine lv_istore_n (lv' := [(1, .int x1_1), (0, .ref (G.2.2 0))]) hx hb dX11_forget_7 rfl hl (by decide) rfl (fun ls hl => ?_)
  refine lv_aload_n hx hb dX11_forget_8 rfl (lv_at hl 1 rfl) ?_
  refine gt11_5 C hK hW (rfl : shC 0 = 11) (List.mem_cons_of_mem _ mw28) (fun _ h9 => List.mem_cons_of_mem _ (inU_wsX110 _ h9)) dX11_forget_9 ?_
  refine k_cv hW (va_runV (As := []) (rest := []) (k_fix C) (c_X9_clear l G (rfl : shC 51 = 9) h _ hq) (cwV 0 C.2.2.2.2.2.1 (gU_V mw251 mw252 mw253 mw27 mw254) rfl rfl rfl (by decide +kernel) ⟨Nat.le_of_ble_eq_true rfl, Nat.le_of_ble_eq_true rfl⟩) (k_preV hK hW (shC_lt (rfl : shC 51 = 9) (by decide)) (ceC_9 (rfl : shC 51 = 9)) (q := (RX9, TX9, 4)) rfl) rfl rfl hl.1 rfl (lv_room (Nat.le_of_ble_eq_true rfl)) dX11_forget_12 ⟨Nat.le_refl 0, Nat.le_refl 0⟩) (fun h2 H locs hq hW => ?_)
  refine lv_iload_n hx hb dX11_forget_15 rfl (lv_at hl 0 rfl) ?_
  exact k_iret rfl C hW dX11_forget_16 hq
theorem c_X11_forget (l : Launch) (G : wG) (h : hp) (Q : Int32 → hp → Prop) (hq : w_X11_forget h Q) : ctI l SC G yX11_forget wUX11_forget rmX11_forget h [.ref (G.2.2 0)] Q := by
  refine k_start (cc := cX11_forget) (maxL := 2) (rt := (some .int)) (own := RX11) (by decide +kernel) rfl rfl (Nat.le_of_ble_eq_true rfl) ?_
  intro p e s m below meth c ls C hK hW hl
  exact k_X11_forget_0 C hK hW hl hq
theorem k_X11_choose_0 {Q : Int32 → hp → Prop} {x1 : Int32} {x2 : Int32} {x3 : Int32} {h : hp} (C : kC p s m args meth c cX11_choose 4 (some .boolean) RX11 wUX11_choose) (hK : kK G s) {H : Heap} {locs : List Loc} {ls : Array Slot} (hW : kW SC G h (aS SC G) s H locs) (hl : lv_has ls 4 [(0, .ref (G.2.2 0)), (1, .int x1), (2, .int x2), (3, .int x3)]) (hq : w_X11_choose_0 Q x1 x2 x3 h) : W p l e rmX11_choose s m args below meth c H locs 0 0 (MQ below (va_Qi Q (kB SC G) (aS SC G)) args s 0 0 (aS SC G)) (F0 m 0 ls []) := by
  have hx := C.1
  have hb := C.2.1
  unfold w_X11_choose_0 at hq
  refine lv_iload_n hx hb dX11_choose_0 rfl (lv_at hl 1 rfl) ?_
  refine lv_i2l (v := x1.toInt64) hx hb dX11_choose_1 rfl ?_
  refine lv_lconst (v := 0) hx hb dX11_choose_2 (by decide) ?_
  refine lv_aload_n hx hb dX11_choose_3 rfl (lv_at hl 0 rfl) ?_
  refine gt11_5 C hK hW (rfl : shC 0 = 11) (List.mem_cons_of_mem _ mw28) (fun _ h9 => List.mem_cons_of_mem _ (inU_wsX110 _ h9)) dX11_choose_4 ?_
  refine gt9_0 C hK hW (rfl : shC 51 = 9) (List.mem_cons_of_mem _ mw933) (fun _ h9 => List.mem_cons_of_mem _ (inU_wsX90 _ h9)) dX11_choose_7 ?_
  refine lv_i2l (v := (gI h 51 0).toInt64) hx hb dX11_choose_10 rfl ?_
  refine k_ci hW (va_runS (As := [.long (x1.toInt64), .long 0, .long ((gI h 51 0).toInt64)]) (rest := []) (k_fix C) (c_X11_within l G h (x1.toInt64) 0 ((gI h 51 0).toInt64) _ hq) (va_cwS 3 C.2.2.2.2.2.1 (gU_S mw780 mw446 mw2 mw447) rfl rfl rfl (by decide +kernel) ⟨Nat.le_of_ble_eq_true rfl, Nat.le_of_ble_eq_true rfl⟩) (k_preS hK hW) rfl rfl hl.1 rfl (lv_room (Nat.le_of_ble_eq_true rfl)) dX11_choose_11 ⟨Nat.le_refl 0, Nat.le_refl 0⟩) (fun r1 h2 H locs hq hW => ?_)
  rw [hq.1] at hW
  have hq := hq.2
  refine lv_if_eq (tgt := 41) hx hb dX11_choose_14 (by decide) (fun c3 => ?_) (fun c3 => ?_)
  · have hq := hq.1 c3
    refine lv_iconst (v := 0) hx hb dX11_choose_41 (by decide) ?_
    exact k_zret rfl isZ_0.1 C hW dX11_choose_42 hq
  · have hq := hq.2 c3
    refine lv_iload_n hx hb dX11_choose_17 rfl (lv_at hl 2 rfl) ?_
    refine lv_i2l (v := x2.toInt64) hx hb dX11_choose_18 rfl ?_
    refine lv_lconst (v := 0) hx hb dX11_choose_19 (by decide) ?_
    refine lv_ldc2 (v := 20) hx hb C.2.2.2.2.1 (C.2.2.2.2.2.1 _ (List.mem_cons_of_mem _ mw968)) dX11_choose_20 ?_
    refine k_ci hW (va_runS (As := [.long (x2.toInt64), .long 0, .long 20]) (rest := []) (k_fix C) (c_X11_within l G h (x2.toInt64) 0 20 _ hq) (va_cwS 3 C.2.2.2.2.2.1 (gU_S mw780 mw446 mw2 mw447) rfl rfl rfl (by decide +kernel) ⟨Nat.le_of_ble_eq_true rfl, Nat.le_of_ble_eq_true rfl⟩) (k_preS hK hW) rfl rfl hl.1 rfl (lv_room (Nat.le_of_ble_eq_true rfl)) dX11_choose_23 ⟨Nat.le_refl 0, Nat.le_refl 0⟩) (fun r4 h5 H locs hq hW => ?_)
    rw [hq.1] at hW
    have hq := hq.2
    refine lv_if_eq (tgt := 41) hx hb dX11_choose_26 (by decide) (fun c6 => ?_) (fun c6 => ?_)
    · have hq := hq.1 c6
      refine lv_iconst (v := 0) hx hb dX11_choose_41 (by decide) ?_
      exact k_zret rfl isZ_0.1 C hW dX11_choose_42 hq
    · have hq := hq.2 c6
      refine lv_iload_n hx hb dX11_choose_29 rfl (lv_at hl 3 rfl) ?_
      refine lv_i2l (v := x3.toInt64) hx hb dX11_choose_30 rfl ?_
      refine lv_lconst (v := 0) hx hb dX11_choose_31 (by decide) ?_
      refine lv_ldc2 (v := 4) hx hb C.2.2.2.2.1 (C.2.2.2.2.2.1 _ (List.mem_cons_of_mem _ mw969)) dX11_choose_32 ?_
      refine k_ci hW (va_runS (As := [.long (x3.toInt64), .long 0, .long 4]) (rest := []) (k_fix C) (c_X11_within l G h (x3.toInt64) 0 4 _ hq) (va_cwS 3 C.2.2.2.2.2.1 (gU_S mw780 mw446 mw2 mw447) rfl rfl rfl (by decide +kernel) ⟨Nat.le_of_ble_eq_true rfl, Nat.le_of_ble_eq_true rfl⟩) (k_preS hK hW) rfl rfl hl.1 rfl (lv_room (Nat.le_of_ble_eq_true rfl)) dX11_choose_35 ⟨Nat.le_refl 0, Nat.le_refl 0⟩) (fun r7 h8 H locs hq hW => ?_)
      rw [hq.1] at hW
      have hq := hq.2
      refine lv_if_ne (tgt := 43) hx hb dX11_choose_38 (by decide) (fun c9 => ?_) (fun c9 => ?_)
      · have hq := hq.1 c9
        refine lv_aload_n hx hb dX11_choose_43 rfl (lv_at hl 0 rfl) ?_
        refine gt11_10 C hK hW (rfl : shC 0 = 11) (List.mem_cons_of_mem _ mw39) (fun _ h9 => List.mem_cons_of_mem _ (inU_wsX110 _ h9)) dX11_choose_44 ?_
        refine lv_aload_n hx hb dX11_choose_47 rfl (lv_at hl 0 rfl) ?_
        refine gt11_5 C hK hW (rfl : shC 0 = 11) (List.mem_cons_of_mem _ mw28) (fun _ h9 => List.mem_cons_of_mem _ (inU_wsX110 _ h9)) dX11_choose_48 ?_
        refine lv_iload_n hx hb dX11_choose_51 rfl (lv_at hl 1 rfl) ?_
        refine lv_iload_n hx hb dX11_choose_52 rfl (lv_at hl 2 rfl) ?_
        refine lv_iload_n hx hb dX11_choose_53 rfl (lv_at hl 3 rfl) ?_
        refine k_cv hW (va_runV (As := [.ref (G.2.2 51), .int x1, .int x2, .int x3]) (rest := []) (k_fix C) (c_X1_select l G (rfl : shC 51 = 9) h x1 x2 x3 _ hq) (cwV 4 C.2.2.2.2.2.1 (gU_V mw970 mw971 mw972 mw38 mw973) rfl rfl rfl (by decide +kernel) ⟨Nat.le_of_ble_eq_true rfl, Nat.le_of_ble_eq_true rfl⟩) (k_preV hK hW (shC_lt (rfl : shC 71 = 1) (by decide)) (ceC_1 (rfl : shC 71 = 1)) (q := (RX1, TX1, 7)) rfl) rfl rfl hl.1 rfl (lv_room (Nat.le_of_ble_eq_true rfl)) dX11_choose_54 ⟨Nat.le_refl 0, Nat.le_refl 0⟩) (fun h10 H locs hq hW => ?_)
        refine lv_iconst (v := 1) hx hb dX11_choose_57 (by decide) ?_
        exact k_zret rfl isZ_1.1 C hW dX11_choose_58 hq
      · have hq := hq.2 c9
        refine lv_iconst (v := 0) hx hb dX11_choose_41 (by decide) ?_
        exact k_zret rfl isZ_0.1 C hW dX11_choose_42 hq
theorem c_X11_choose (l : Launch) (G : wG) (h : hp) (x1 : Int32) (x2 : Int32) (x3 : Int32) (Q : Int32 → hp → Prop) (hq : w_X11_choose h x1 x2 x3 Q) : ctI l SC G yX11_choose wUX11_choose rmX11_choose h [.ref (G.2.2 0), .int x1, .int x2, .int x3] Q := by
  refine k_start (cc := cX11_choose) (maxL := 4) (rt := (some .boolean)) (own := RX11) (by decide +kernel) rfl rfl (Nat.le_of_ble_eq_true rfl) ?_
  intro p e s m below meth c ls C hK hW hl
  exact k_X11_choose_0 C hK hW hl hq
theorem k_X11_fits_0 {Q : Int32 → hp → Prop} {x1 : Int32} {x2 : Int32} {x3 : Int32} {x4 : Int32} {h : hp} (C : kC p s m args meth c cX11_fits 5 (some .int) RX11 wUX11_fits) (hK : kK G s) {H : Heap} {locs : List Loc} {ls : Array Slot} (hW : kW SC G h (aS SC G) s H locs) (hl : lv_has ls 5 [(0, .ref (G.2.2 0)), (1, .int x1), (2, .int x2), (3, .int x3), (4, .int x4)]) (hq : w_X11_fits_0 Q x1 x2 x3 x4 h) : W p l e rmX11_fits s m args below meth c H locs 0 0 (MQ below (va_Qi Q (kB SC G) (aS SC G)) args s 0 0 (aS SC G)) (F0 m 0 ls []) := by
  have hx := C.1
  have hb := C.2.1
  unfold w_X11_fits_0 at hq
  refine lv_iload hx hb dX11_fits_0 (lv_at hl 4 rfl) ?_
  refine lv_iconst (v := (-1)) hx hb dX11_fits_2 (by decide) ?_
  refine lv_icmp_lt (tgt := 16) hx hb dX11_fits_3 (by decide) (fun c1 => ?_) (fun c1 => ?_)
  · have hq := hq.1 c1
    refine lv_iconst (v := (-1)) hx hb dX11_fits_16 (by decide) ?_
    exact k_iret rfl C hW dX11_fits_17 hq
  · have hq := hq.2 c1
    refine lv_aload_n hx hb dX11_fits_6 rfl (lv_at hl 0 rfl) ?_
    refine lv_iload_n hx hb dX11_fits_7 rfl (lv_at hl 1 rfl) ?_
    refine lv_iload_n hx hb dX11_fits_8 rfl (lv_at hl 2 rfl) ?_
    refine lv_iload_n hx hb dX11_fits_9 rfl (lv_at hl 3 rfl) ?_
    refine k_ci hW (va_runV (As := [.int x1, .int x2, .int x3]) (rest := []) (k_fix C) (c_X11_choose l G h x1 x2 x3 _ hq) (cwV 3 C.2.2.2.2.2.1 (gU_V mw964 mw965 mw966 mw2 mw967) rfl rfl rfl (by decide +kernel) ⟨Nat.le_of_ble_eq_true rfl, Nat.le_of_ble_eq_true rfl⟩) (k_preV hK hW (shC_lt (rfl : shC 0 = 11) (by decide)) (ceC_11 (rfl : shC 0 = 11)) (q := (RX11, TX11, 11)) rfl) rfl rfl hl.1 rfl (lv_room (Nat.le_of_ble_eq_true rfl)) dX11_fits_10 ⟨Nat.le_refl 0, Nat.le_refl 0⟩) (fun r3 h2 H locs hq hW => ?_)
    refine lv_if_ne (tgt := 18) hx hb dX11_fits_13 (by decide) (fun c4 => ?_) (fun c4 => ?_)
    · have hq := hq.1 c4
      refine lv_iload hx hb dX11_fits_18 (lv_at hl 4 rfl) ?_
      refine lv_iconst (v := (-1)) hx hb dX11_fits_20 (by decide) ?_
      refine lv_icmp_ne (tgt := 32) hx hb dX11_fits_21 (by decide) (fun c5 => ?_) (fun c5 => ?_)
      · have hq := hq.1 c5
        refine lv_iload hx hb dX11_fits_32 (lv_at hl 4 rfl) ?_
        refine lv_aload_n hx hb dX11_fits_34 rfl (lv_at hl 0 rfl) ?_
        refine gt11_10 C hK hW (rfl : shC 0 = 11) (List.mem_cons_of_mem _ mw39) (fun _ h9 => List.mem_cons_of_mem _ (inU_wsX110 _ h9)) dX11_fits_35 ?_
        refine gt1_1 C hK hW (rfl : shC 71 = 1) (List.mem_cons_of_mem _ mw962) (fun _ h9 => List.mem_cons_of_mem _ (inU_wsX10 _ h9)) dX11_fits_38 ?_
        refine lv_icmp_ge (tgt := 57) hx hb dX11_fits_41 (by decide) (fun c6 => ?_) (fun c6 => ?_)
        · have hq := hq.1 c6
          refine lv_iconst (v := (-1)) hx hb dX11_fits_57 (by decide) ?_
          exact k_iret rfl C hW dX11_fits_58 hq
        · have hq := hq.2 c6
          refine lv_aload_n hx hb dX11_fits_44 rfl (lv_at hl 0 rfl) ?_
          refine gt11_10 C hK hW (rfl : shC 0 = 11) (List.mem_cons_of_mem _ mw39) (fun _ h9 => List.mem_cons_of_mem _ (inU_wsX110 _ h9)) dX11_fits_45 ?_
          refine gt1_0 C hK hW (rfl : shC 71 = 1) (List.mem_cons_of_mem _ mw963) (fun _ h9 => List.mem_cons_of_mem _ (inU_wsX10 _ h9)) dX11_fits_48 ?_
          refine lv_iload hx hb dX11_fits_51 (lv_at hl 4 rfl) ?_
          refine k_iald C hK hW (shC_lt (rfl : shC 72 = 14) (by decide)) (ceC_14 (rfl : shC 72 = 14) (rfl : lnC 72 = 10000)) hq.1 dX11_fits_53 ?_
          have hq := hq.2
          refine lv_goto (tgt := 58) hx hb dX11_fits_54 (by decide) ?_
          exact k_iret rfl C hW dX11_fits_58 hq
      · have hq := hq.2 c5
        refine lv_aload_n hx hb dX11_fits_24 rfl (lv_at hl 0 rfl) ?_
        refine gt11_10 C hK hW (rfl : shC 0 = 11) (List.mem_cons_of_mem _ mw39) (fun _ h9 => List.mem_cons_of_mem _ (inU_wsX110 _ h9)) dX11_fits_25 ?_
        refine gt1_1 C hK hW (rfl : shC 71 = 1) (List.mem_cons_of_mem _ mw962) (fun _ h9 => List.mem_cons_of_mem _ (inU_wsX10 _ h9)) dX11_fits_28 ?_
        exact k_iret rfl C hW dX11_fits_31 hq
    · have hq := hq.2 c4
      refine lv_iconst (v := (-1)) hx hb dX11_fits_16 (by decide) ?_
      exact k_iret rfl C hW dX11_fits_17 hq
theorem c_X11_fits (l : Launch) (G : wG) (h : hp) (x1 : Int32) (x2 : Int32) (x3 : Int32) (x4 : Int32) (Q : Int32 → hp → Prop) (hq : w_X11_fits h x1 x2 x3 x4 Q) : ctI l SC G yX11_fits wUX11_fits rmX11_fits h [.ref (G.2.2 0), .int x1, .int x2, .int x3, .int x4] Q := by
  refine k_start (cc := cX11_fits) (maxL := 5) (rt := (some .int)) (own := RX11) (by decide +kernel) rfl rfl (Nat.le_of_ble_eq_true rfl) ?_
  intro p e s m below meth c ls C hK hW hl
  exact k_X11_fits_0 C hK hW hl hq
theorem k_X11_sure_0 {Q : Int32 → hp → Prop} {x1 : Int32} {x2 : Int32} {x3 : Int32} {h : hp} (C : kC p s m args meth c cX11_sure 4 (some .int) RX11 wUX11_sure) (hK : kK G s) {H : Heap} {locs : List Loc} {ls : Array Slot} (hW : kW SC G h (aS SC G) s H locs) (hl : lv_has ls 4 [(0, .ref (G.2.2 0)), (1, .int x1), (2, .int x2), (3, .int x3)]) (hq : w_X11_sure_0 Q x1 x2 x3 h) : W p l e rmX11_sure s m args below meth c H locs 0 0 (MQ below (va_Qi Q (kB SC G) (aS SC G)) args s 0 0 (aS SC G)) (F0 m 0 ls []) := by
  have hx := C.1
  have hb := C.2.1
  unfold w_X11_sure_0 at hq
  refine lv_aload_n hx hb dX11_sure_0 rfl (lv_at hl 0 rfl) ?_
  refine lv_iload_n hx hb dX11_sure_1 rfl (lv_at hl 1 rfl) ?_
  refine lv_iload_n hx hb dX11_sure_2 rfl (lv_at hl 2 rfl) ?_
  refine lv_iload_n hx hb dX11_sure_3 rfl (lv_at hl 3 rfl) ?_
  refine k_ci hW (va_runV (As := [.int x1, .int x2, .int x3]) (rest := []) (k_fix C) (c_X11_choose l G h x1 x2 x3 _ hq) (cwV 3 C.2.2.2.2.2.1 (gU_V mw964 mw965 mw966 mw2 mw967) rfl rfl rfl (by decide +kernel) ⟨Nat.le_of_ble_eq_true rfl, Nat.le_of_ble_eq_true rfl⟩) (k_preV hK hW (shC_lt (rfl : shC 0 = 11) (by decide)) (ceC_11 (rfl : shC 0 = 11)) (q := (RX11, TX11, 11)) rfl) rfl rfl hl.1 rfl (lv_room (Nat.le_of_ble_eq_true rfl)) dX11_sure_4 ⟨Nat.le_refl 0, Nat.le_refl 0⟩) (fun r2 h1 H locs hq hW => ?_)
  refine lv_if_eq (tgt := 20) hx hb dX11_sure_7 (by decide) (fun c3 => ?_) (fun c3 => ?_)
  · have hq := hq.1 c3
    refine lv_iconst (v := (-1)) hx hb dX11_sure_20 (by decide) ?_
    exact k_iret rfl C hW dX11_sure_21 hq
  · have hq := hq.2 c3
    refine lv_aload_n hx hb dX11_sure_10 rfl (lv_at hl 0 rfl) ?_
    refine gt11_10 C hK hW (rfl : shC 0 = 11) (List.mem_cons_of_mem _ mw39) (fun _ h9 => List.mem_cons_of_mem _ (inU_wsX110 _ h9)) dX11_sure_11 ?_
    refine k_ci hW (va_runV (As := []) (rest := []) (k_fix C) (c_X1_surePlaces l G h1 _ hq) (cwV 0 C.2.2.2.2.2.1 (gU_V mw1014 mw1015 mw1016 mw38 mw1017) rfl rfl rfl (by decide +kernel) ⟨Nat.le_of_ble_eq_true rfl, Nat.le_of_ble_eq_true rfl⟩) (k_preV hK hW (shC_lt (rfl : shC 71 = 1) (by decide)) (ceC_1 (rfl : shC 71 = 1)) (q := (RX1, TX1, 7)) rfl) rfl rfl hl.1 rfl (lv_room (Nat.le_of_ble_eq_true rfl)) dX11_sure_14 ⟨Nat.le_refl 0, Nat.le_refl 0⟩) (fun r4 h5 H locs hq hW => ?_)
    rw [hq.1] at hW
    have hq := hq.2
    refine lv_goto (tgt := 21) hx hb dX11_sure_17 (by decide) ?_
    exact k_iret rfl C hW dX11_sure_21 hq
theorem c_X11_sure (l : Launch) (G : wG) (h : hp) (x1 : Int32) (x2 : Int32) (x3 : Int32) (Q : Int32 → hp → Prop) (hq : w_X11_sure h x1 x2 x3 Q) : ctI l SC G yX11_sure wUX11_sure rmX11_sure h [.ref (G.2.2 0), .int x1, .int x2, .int x3] Q := by
  refine k_start (cc := cX11_sure) (maxL := 4) (rt := (some .int)) (own := RX11) (by decide +kernel) rfl rfl (Nat.le_of_ble_eq_true rfl) ?_
  intro p e s m below meth c ls C hK hW hl
  exact k_X11_sure_0 C hK hW hl hq
theorem k_X11_span_0 {Q : Int32 → hp → Prop} {x1 : Int32} {x2 : Int32} {x3 : Int32} {x4 : Int32} {h : hp} (C : kC p s m args meth c cX11_span 5 (some .int) RX11 wUX11_span) (hK : kK G s) {H : Heap} {locs : List Loc} {ls : Array Slot} (hW : kW SC G h (aS SC G) s H locs) (hl : lv_has ls 5 [(0, .ref (G.2.2 0)), (1, .int x1), (2, .int x2), (3, .int x3), (4, .int x4)]) (hq : w_X11_span_0 Q x1 x2 x3 x4 h) : W p l e rmX11_span s m args below meth c H locs 0 0 (MQ below (va_Qi Q (kB SC G) (aS SC G)) args s 0 0 (aS SC G)) (F0 m 0 ls []) := by
  have hx := C.1
  have hb := C.2.1
  unfold w_X11_span_0 at hq
  refine lv_iload hx hb dX11_span_0 (lv_at hl 4 rfl) ?_
  refine lv_if_lt (tgt := 27) hx hb dX11_span_2 (by decide) (fun c1 => ?_) (fun c1 => ?_)
  · have hq := hq.1 c1
    refine lv_iconst (v := (-1)) hx hb dX11_span_27 (by decide) ?_
    exact k_iret rfl C hW dX11_span_28 hq
  · have hq := hq.2 c1
    refine lv_iload hx hb dX11_span_5 (lv_at hl 4 rfl) ?_
    refine lv_aload_n hx hb dX11_span_7 rfl (lv_at hl 0 rfl) ?_
    refine gt11_9 C hK hW (rfl : shC 0 = 11) (List.mem_cons_of_mem _ mw35) (fun _ h9 => List.mem_cons_of_mem _ (inU_wsX110 _ h9)) dX11_span_8 ?_
    refine gt10_0 C hK hW (rfl : shC 64 = 10) (List.mem_cons_of_mem _ mw911) (fun _ h9 => List.mem_cons_of_mem _ (inU_wsX100 _ h9)) dX11_span_11 ?_
    refine lv_icmp_ge (tgt := 27) hx hb dX11_span_14 (by decide) (fun c2 => ?_) (fun c2 => ?_)
    · have hq := hq.1 c2
      refine lv_iconst (v := (-1)) hx hb dX11_span_27 (by decide) ?_
      exact k_iret rfl C hW dX11_span_28 hq
    · have hq := hq.2 c2
      refine lv_aload_n hx hb dX11_span_17 rfl (lv_at hl 0 rfl) ?_
      refine lv_iload_n hx hb dX11_span_18 rfl (lv_at hl 1 rfl) ?_
      refine lv_iload_n hx hb dX11_span_19 rfl (lv_at hl 2 rfl) ?_
      refine lv_iload_n hx hb dX11_span_20 rfl (lv_at hl 3 rfl) ?_
      refine k_ci hW (va_runV (As := [.int x1, .int x2, .int x3]) (rest := []) (k_fix C) (c_X11_choose l G h x1 x2 x3 _ hq) (cwV 3 C.2.2.2.2.2.1 (gU_V mw964 mw965 mw966 mw2 mw967) rfl rfl rfl (by decide +kernel) ⟨Nat.le_of_ble_eq_true rfl, Nat.le_of_ble_eq_true rfl⟩) (k_preV hK hW (shC_lt (rfl : shC 0 = 11) (by decide)) (ceC_11 (rfl : shC 0 = 11)) (q := (RX11, TX11, 11)) rfl) rfl rfl hl.1 rfl (lv_room (Nat.le_of_ble_eq_true rfl)) dX11_span_21 ⟨Nat.le_refl 0, Nat.le_refl 0⟩) (fun r4 h3 H locs hq hW => ?_)
      refine lv_if_ne (tgt := 29) hx hb dX11_span_24 (by decide) (fun c5 => ?_) (fun c5 => ?_)
      · have hq := hq.1 c5
        refine lv_aload_n hx hb dX11_span_29 rfl (lv_at hl 0 rfl) ?_
        refine gt11_10 C hK hW (rfl : shC 0 = 11) (List.mem_cons_of_mem _ mw39) (fun _ h9 => List.mem_cons_of_mem _ (inU_wsX110 _ h9)) dX11_span_30 ?_
        refine gt1_1 C hK hW (rfl : shC 71 = 1) (List.mem_cons_of_mem _ mw962) (fun _ h9 => List.mem_cons_of_mem _ (inU_wsX10 _ h9)) dX11_span_33 ?_
        refine lv_if_ne (tgt := 42) hx hb dX11_span_36 (by decide) (fun c6 => ?_) (fun c6 => ?_)
        · have hq := hq.1 c6
          refine lv_bipush (v := 10) hx hb dX11_span_42 (by decide) ?_
          refine lv_aload_n hx hb dX11_span_44 rfl (lv_at hl 0 rfl) ?_
          refine gt11_10 C hK hW (rfl : shC 0 = 11) (List.mem_cons_of_mem _ mw39) (fun _ h9 => List.mem_cons_of_mem _ (inU_wsX110 _ h9)) dX11_span_45 ?_
          refine lv_iload hx hb dX11_span_48 (lv_at hl 4 rfl) ?_
          refine k_ci hW (va_runV (As := [.int x4]) (rest := [.int 10]) (k_fix C) (c_X1_leastAt l G h3 x4 _ hq) (cwV 1 C.2.2.2.2.2.1 (gU_V mw1042 mw1020 mw1021 mw38 mw1022) rfl rfl rfl (by decide +kernel) ⟨Nat.le_of_ble_eq_true rfl, Nat.le_of_ble_eq_true rfl⟩) (k_preV hK hW (shC_lt (rfl : shC 71 = 1) (by decide)) (ceC_1 (rfl : shC 71 = 1)) (q := (RX1, TX1, 7)) rfl) rfl rfl hl.1 rfl (lv_room (Nat.le_of_ble_eq_true rfl)) dX11_span_50 ⟨Nat.le_refl 0, Nat.le_refl 0⟩) (fun r7 h8 H locs hq hW => ?_)
          rw [hq.1] at hW
          have hq := hq.2
          refine lv_imul hx hb dX11_span_53 ?_
          refine lv_aload_n hx hb dX11_span_54 rfl (lv_at hl 0 rfl) ?_
          refine gt11_10 C hK hW (rfl : shC 0 = 11) (List.mem_cons_of_mem _ mw39) (fun _ h9 => List.mem_cons_of_mem _ (inU_wsX110 _ h9)) dX11_span_55 ?_
          refine lv_iload hx hb dX11_span_58 (lv_at hl 4 rfl) ?_
          refine k_ci hW (va_runV (As := [.int x4]) (rest := [.int (10 * r7)]) (k_fix C) (c_X1_greatestAt l G h3 x4 _ hq) (cwV 1 C.2.2.2.2.2.1 (gU_V mw1043 mw1026 mw1027 mw38 mw1028) rfl rfl rfl (by decide +kernel) ⟨Nat.le_of_ble_eq_true rfl, Nat.le_of_ble_eq_true rfl⟩) (k_preV hK hW (shC_lt (rfl : shC 71 = 1) (by decide)) (ceC_1 (rfl : shC 71 = 1)) (q := (RX1, TX1, 7)) rfl) rfl rfl hl.1 rfl (lv_room (Nat.le_of_ble_eq_true rfl)) dX11_span_60 ⟨Nat.le_refl 0, Nat.le_refl 0⟩) (fun r9 h10 H locs hq hW => ?_)
          rw [hq.1] at hW
          have hq := hq.2
          refine lv_iadd hx hb dX11_span_63 ?_
          exact k_iret rfl C hW dX11_span_64 hq
        · have hq := hq.2 c6
          refine lv_bipush (v := (-2)) hx hb dX11_span_39 (by decide) ?_
          exact k_iret rfl C hW dX11_span_41 hq
      · have hq := hq.2 c5
        refine lv_iconst (v := (-1)) hx hb dX11_span_27 (by decide) ?_
        exact k_iret rfl C hW dX11_span_28 hq
theorem c_X11_span (l : Launch) (G : wG) (h : hp) (x1 : Int32) (x2 : Int32) (x3 : Int32) (x4 : Int32) (Q : Int32 → hp → Prop) (hq : w_X11_span h x1 x2 x3 x4 Q) : ctI l SC G yX11_span wUX11_span rmX11_span h [.ref (G.2.2 0), .int x1, .int x2, .int x3, .int x4] Q := by
  refine k_start (cc := cX11_span) (maxL := 5) (rt := (some .int)) (own := RX11) (by decide +kernel) rfl rfl (Nat.le_of_ble_eq_true rfl) ?_
  intro p e s m below meth c ls C hK hW hl
  exact k_X11_span_0 C hK hW hl hq
theorem k_X11_liars_0 {Q : Int32 → hp → Prop} {x1 : Int32} {x2 : Int32} {x3 : Int32} {h : hp} (C : kC p s m args meth c cX11_liars 4 (some .int) RX11 wUX11_liars) (hK : kK G s) {H : Heap} {locs : List Loc} {ls : Array Slot} (hW : kW SC G h (aS SC G) s H locs) (hl : lv_has ls 4 [(0, .ref (G.2.2 0)), (1, .int x1), (2, .int x2), (3, .int x3)]) (hq : w_X11_liars_0 Q x1 x2 x3 h) : W p l e rmX11_liars s m args below meth c H locs 0 0 (MQ below (va_Qi Q (kB SC G) (aS SC G)) args s 0 0 (aS SC G)) (F0 m 0 ls []) := by
  have hx := C.1
  have hb := C.2.1
  unfold w_X11_liars_0 at hq
  refine lv_aload_n hx hb dX11_liars_0 rfl (lv_at hl 0 rfl) ?_
  refine lv_iload_n hx hb dX11_liars_1 rfl (lv_at hl 1 rfl) ?_
  refine lv_iload_n hx hb dX11_liars_2 rfl (lv_at hl 2 rfl) ?_
  refine lv_iload_n hx hb dX11_liars_3 rfl (lv_at hl 3 rfl) ?_
  refine k_ci hW (va_runV (As := [.int x1, .int x2, .int x3]) (rest := []) (k_fix C) (c_X11_choose l G h x1 x2 x3 _ hq) (cwV 3 C.2.2.2.2.2.1 (gU_V mw964 mw965 mw966 mw2 mw967) rfl rfl rfl (by decide +kernel) ⟨Nat.le_of_ble_eq_true rfl, Nat.le_of_ble_eq_true rfl⟩) (k_preV hK hW (shC_lt (rfl : shC 0 = 11) (by decide)) (ceC_11 (rfl : shC 0 = 11)) (q := (RX11, TX11, 11)) rfl) rfl rfl hl.1 rfl (lv_room (Nat.le_of_ble_eq_true rfl)) dX11_liars_4 ⟨Nat.le_refl 0, Nat.le_refl 0⟩) (fun r2 h1 H locs hq hW => ?_)
  refine lv_if_eq (tgt := 25) hx hb dX11_liars_7 (by decide) (fun c3 => ?_) (fun c3 => ?_)
  · have hq := hq.1 c3
    refine lv_iconst (v := (-1)) hx hb dX11_liars_25 (by decide) ?_
    exact k_iret rfl C hW dX11_liars_26 hq
  · have hq := hq.2 c3
    refine lv_aload_n hx hb dX11_liars_10 rfl (lv_at hl 0 rfl) ?_
    refine gt11_10 C hK hW (rfl : shC 0 = 11) (List.mem_cons_of_mem _ mw39) (fun _ h9 => List.mem_cons_of_mem _ (inU_wsX110 _ h9)) dX11_liars_11 ?_
    refine lv_aload_n hx hb dX11_liars_14 rfl (lv_at hl 0 rfl) ?_
    refine gt11_5 C hK hW (rfl : shC 0 = 11) (List.mem_cons_of_mem _ mw28) (fun _ h9 => List.mem_cons_of_mem _ (inU_wsX110 _ h9)) dX11_liars_15 ?_
    refine lv_iload_n hx hb dX11_liars_18 rfl (lv_at hl 1 rfl) ?_
    refine k_ci hW (va_runV (As := [.ref (G.2.2 51), .int x1]) (rest := []) (k_fix C) (c_X1_sureLiars l G (rfl : shC 51 = 9) h1 x1 _ hq) (cwV 2 C.2.2.2.2.2.1 (gU_V mw1052 mw1053 mw1054 mw38 mw1055) rfl rfl rfl (by decide +kernel) ⟨Nat.le_of_ble_eq_true rfl, Nat.le_of_ble_eq_true rfl⟩) (k_preV hK hW (shC_lt (rfl : shC 71 = 1) (by decide)) (ceC_1 (rfl : shC 71 = 1)) (q := (RX1, TX1, 7)) rfl) rfl rfl hl.1 rfl (lv_room (Nat.le_of_ble_eq_true rfl)) dX11_liars_19 ⟨Nat.le_refl 0, Nat.le_refl 0⟩) (fun r5 h4 H locs hq hW => ?_)
    refine lv_goto (tgt := 26) hx hb dX11_liars_22 (by decide) ?_
    exact k_iret rfl C hW dX11_liars_26 hq
theorem c_X11_liars (l : Launch) (G : wG) (h : hp) (x1 : Int32) (x2 : Int32) (x3 : Int32) (Q : Int32 → hp → Prop) (hq : w_X11_liars h x1 x2 x3 Q) : ctI l SC G yX11_liars wUX11_liars rmX11_liars h [.ref (G.2.2 0), .int x1, .int x2, .int x3] Q := by
  refine k_start (cc := cX11_liars) (maxL := 4) (rt := (some .int)) (own := RX11) (by decide +kernel) rfl rfl (Nat.le_of_ble_eq_true rfl) ?_
  intro p e s m below meth c ls C hK hW hl
  exact k_X11_liars_0 C hK hW hl hq
theorem k_X11_next_0 {Q : Int32 → hp → Prop} {x1 : Int32} {x2 : Int32} {x3 : Int32} {x4 : Int32} {h : hp} (C : kC p s m args meth c cX11_next 5 (some .int) RX11 wUX11_next) (hK : kK G s) {H : Heap} {locs : List Loc} {ls : Array Slot} (hW : kW SC G h (aS SC G) s H locs) (hl : lv_has ls 5 [(0, .ref (G.2.2 0)), (1, .int x1), (2, .int x2), (3, .int x3), (4, .int x4)]) (hq : w_X11_next_0 Q x1 x2 x3 x4 h) : W p l e rmX11_next s m args below meth c H locs 0 0 (MQ below (va_Qi Q (kB SC G) (aS SC G)) args s 0 0 (aS SC G)) (F0 m 0 ls []) := by
  have hx := C.1
  have hb := C.2.1
  unfold w_X11_next_0 at hq
  refine lv_iload hx hb dX11_next_0 (lv_at hl 4 rfl) ?_
  refine lv_i2l (v := x4.toInt64) hx hb dX11_next_2 rfl ?_
  refine lv_lconst (v := 0) hx hb dX11_next_3 (by decide) ?_
  refine lv_lconst (v := 1) hx hb dX11_next_4 (by decide) ?_
  refine k_ci hW (va_runS (As := [.long (x4.toInt64), .long 0, .long 1]) (rest := []) (k_fix C) (c_X11_within l G h (x4.toInt64) 0 1 _ hq) (va_cwS 3 C.2.2.2.2.2.1 (gU_S mw780 mw446 mw2 mw447) rfl rfl rfl (by decide +kernel) ⟨Nat.le_of_ble_eq_true rfl, Nat.le_of_ble_eq_true rfl⟩) (k_preS hK hW) rfl rfl hl.1 rfl (lv_room (Nat.le_of_ble_eq_true rfl)) dX11_next_5 ⟨Nat.le_refl 0, Nat.le_refl 0⟩) (fun r1 h2 H locs hq hW => ?_)
  rw [hq.1] at hW
  have hq := hq.2
  refine lv_if_eq (tgt := 21) hx hb dX11_next_8 (by decide) (fun c3 => ?_) (fun c3 => ?_)
  · have hq := hq.1 c3
    refine lv_sipush (v := (-1000)) hx hb dX11_next_21 (by decide) ?_
    exact k_iret rfl C hW dX11_next_24 hq
  · have hq := hq.2 c3
    refine lv_aload_n hx hb dX11_next_11 rfl (lv_at hl 0 rfl) ?_
    refine lv_iload_n hx hb dX11_next_12 rfl (lv_at hl 1 rfl) ?_
    refine lv_iload_n hx hb dX11_next_13 rfl (lv_at hl 2 rfl) ?_
    refine lv_iload_n hx hb dX11_next_14 rfl (lv_at hl 3 rfl) ?_
    refine k_ci hW (va_runV (As := [.int x1, .int x2, .int x3]) (rest := []) (k_fix C) (c_X11_choose l G h x1 x2 x3 _ hq) (cwV 3 C.2.2.2.2.2.1 (gU_V mw964 mw965 mw966 mw2 mw967) rfl rfl rfl (by decide +kernel) ⟨Nat.le_of_ble_eq_true rfl, Nat.le_of_ble_eq_true rfl⟩) (k_preV hK hW (shC_lt (rfl : shC 0 = 11) (by decide)) (ceC_11 (rfl : shC 0 = 11)) (q := (RX11, TX11, 11)) rfl) rfl rfl hl.1 rfl (lv_room (Nat.le_of_ble_eq_true rfl)) dX11_next_15 ⟨Nat.le_refl 0, Nat.le_refl 0⟩) (fun r5 h4 H locs hq hW => ?_)
    refine lv_if_ne (tgt := 25) hx hb dX11_next_18 (by decide) (fun c6 => ?_) (fun c6 => ?_)
    · have hq := hq.1 c6
      refine lv_aload_n hx hb dX11_next_25 rfl (lv_at hl 0 rfl) ?_
      refine gt11_10 C hK hW (rfl : shC 0 = 11) (List.mem_cons_of_mem _ mw39) (fun _ h9 => List.mem_cons_of_mem _ (inU_wsX110 _ h9)) dX11_next_26 ?_
      refine gt1_1 C hK hW (rfl : shC 71 = 1) (List.mem_cons_of_mem _ mw962) (fun _ h9 => List.mem_cons_of_mem _ (inU_wsX10 _ h9)) dX11_next_29 ?_
      refine lv_if_ne (tgt := 39) hx hb dX11_next_32 (by decide) (fun c7 => ?_) (fun c7 => ?_)
      · have hq := hq.1 c7
        refine lv_aload_n hx hb dX11_next_39 rfl (lv_at hl 0 rfl) ?_
        refine gt11_10 C hK hW (rfl : shC 0 = 11) (List.mem_cons_of_mem _ mw39) (fun _ h9 => List.mem_cons_of_mem _ (inU_wsX110 _ h9)) dX11_next_40 ?_
        refine k_cv hW (va_runV (As := []) (rest := []) (k_fix C) (c_X1_findQuestion l G h4 _ hq) (cwV 0 C.2.2.2.2.2.1 (gU_V mw1070 mw1071 mw1072 mw38 mw1073) rfl rfl rfl (by decide +kernel) ⟨Nat.le_of_ble_eq_true rfl, Nat.le_of_ble_eq_true rfl⟩) (k_preV hK hW (shC_lt (rfl : shC 71 = 1) (by decide)) (ceC_1 (rfl : shC 71 = 1)) (q := (RX1, TX1, 7)) rfl) rfl rfl hl.1 rfl (lv_room (Nat.le_of_ble_eq_true rfl)) dX11_next_43 ⟨Nat.le_refl 0, Nat.le_refl 0⟩) (fun h8 H locs hq hW => ?_)
        refine lv_iload hx hb dX11_next_46 (lv_at hl 4 rfl) ?_
        refine lv_if_ne (tgt := 61) hx hb dX11_next_48 (by decide) (fun c9 => ?_) (fun c9 => ?_)
        · have hq := hq.1 c9
          refine lv_aload_n hx hb dX11_next_61 rfl (lv_at hl 0 rfl) ?_
          refine gt11_10 C hK hW (rfl : shC 0 = 11) (List.mem_cons_of_mem _ mw39) (fun _ h9 => List.mem_cons_of_mem _ (inU_wsX110 _ h9)) dX11_next_62 ?_
          refine gt1_3 C hK hW (rfl : shC 71 = 1) (List.mem_cons_of_mem _ mw1069) (fun _ h9 => List.mem_cons_of_mem _ (inU_wsX10 _ h9)) dX11_next_65 ?_
          exact k_iret rfl C hW dX11_next_68 hq
        · have hq := hq.2 c9
          refine lv_aload_n hx hb dX11_next_51 rfl (lv_at hl 0 rfl) ?_
          refine gt11_10 C hK hW (rfl : shC 0 = 11) (List.mem_cons_of_mem _ mw39) (fun _ h9 => List.mem_cons_of_mem _ (inU_wsX110 _ h9)) dX11_next_52 ?_
          refine gt1_2 C hK hW (rfl : shC 71 = 1) (List.mem_cons_of_mem _ mw1068) (fun _ h9 => List.mem_cons_of_mem _ (inU_wsX10 _ h9)) dX11_next_55 ?_
          refine lv_goto (tgt := 68) hx hb dX11_next_58 (by decide) ?_
          exact k_iret rfl C hW dX11_next_68 hq
      · have hq := hq.2 c7
        refine lv_sipush (v := (-2000)) hx hb dX11_next_35 (by decide) ?_
        exact k_iret rfl C hW dX11_next_38 hq
    · have hq := hq.2 c6
      refine lv_sipush (v := (-1000)) hx hb dX11_next_21 (by decide) ?_
      exact k_iret rfl C hW dX11_next_24 hq
theorem c_X11_next (l : Launch) (G : wG) (h : hp) (x1 : Int32) (x2 : Int32) (x3 : Int32) (x4 : Int32) (Q : Int32 → hp → Prop) (hq : w_X11_next h x1 x2 x3 x4 Q) : ctI l SC G yX11_next wUX11_next rmX11_next h [.ref (G.2.2 0), .int x1, .int x2, .int x3, .int x4] Q := by
  refine k_start (cc := cX11_next) (maxL := 5) (rt := (some .int)) (own := RX11) (by decide +kernel) rfl rfl (Nat.le_of_ble_eq_true rfl) ?_
  intro p e s m below meth c ls C hK hW hl
  exact k_X11_next_0 C hK hW hl hq
end LINKS
