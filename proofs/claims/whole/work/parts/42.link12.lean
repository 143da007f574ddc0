section LINKS
variable {p : Program} {l : Launch} {e : Env} {s : State} {m : MethodId} {args : Array Value} {below : List Frame} {meth : Method} {c : Code} {G : wG}
theorem k_X11_number_b60 {Q : Int64 → Prop} {X60 : Int64 × Int32 → Prop} {x1 : Int32} {x2 : Int32} {h : hp} (C : kC p s m args meth c cX11_number 6 (some .long) RX11 wUX11_number) (hK : kK G s) (hX60 : ∀ (x3 : Int64) (x5 : Int32) (H : Heap) (locs : List Loc) (ls : Array Slot), kW SC G h (aS SC G) s H locs → lv_has ls 6 [(0, .ref (G.2.2 0)), (1, .int x1), (2, .int x2), (3, .long x3), (5, .int x5)] → X60 (x3, x5) → W p l e rmX11_number s m args below meth c H locs 0 0 (MQ below (va_Ql (fun r9 h9 => h9 = h ∧ Q r9) (kB SC G) (aS SC G)) args s 0 0 (aS SC G)) (F0 m 60 ls [])) {x3 : Int64} {x5 : Int32} {H : Heap} {locs : List Loc} {ls : Array Slot} (hW : kW SC G h (aS SC G) s H locs) (hl : lv_has ls 6 [(0, .ref (G.2.2 0)), (1, .int x1), (2, .int x2), (3, .long x3), (5, .int x5)]) (hq : w_X11_number_b60 Q x1 x2 h X60 x3 x5) : W p l e rmX11_number s m args below meth c H locs 0 0 (MQ below (va_Ql (fun r9 h9 => h9 = h ∧ Q r9) (kB SC G) (aS SC G)) args s 0 0 (aS SC G)) (F0 m 60 ls []) := by
  have hx := C.1
  have hb := C.2.1
  unfold w_X11_number_b60 at hq
  refine lv_iload hx hb dX11_number_60 (lv_at hl 4 rfl) ?_
  refine lv_iload_n hx hb dX11_number_62 rfl (lv_at hl 2 rfl) ?_
  refine lv_icmp_ge (tgt := 88) hx hb dX11_number_63 (by decide) (fun c16 => ?_) (fun c16 => ?_)
  · have hq := hq.1 c16
    refine lv_lload_n hx hb dX11_number_88 rfl (lv_at hl 3 rfl) ?_
    exact k_lret rfl C hW dX11_number_89 ⟨rfl, hq⟩
  · have hq := hq.2 c16
    refine lv_lload_n hx hb dX11_number_66 rfl (lv_at hl 3 rfl) ?_
    refine lv_aload_n hx hb dX11_number_67 rfl (lv_at hl 0 rfl) ?_
    refine gt11_4 C hK hW (rfl : shC 0 = 11) (List.mem_cons_of_mem _ mw24) (fun _ h9 => List.mem_cons_of_mem _ (inU_wsX110 _ h9)) dX11_number_68 ?_
    have hr17 := hq.1
    have hq := hq.2
    refine lv_iload_n hx hb dX11_number_71 rfl (lv_at hl 1 rfl) ?_
    refine lv_iload hx hb dX11_number_72 (lv_at hl 4 rfl) ?_
    refine k_ci hW (va_runV (As := [.int x1, .int x5]) (rest := [.long x3]) (k_fix C) (c_X7_numberAt l G hr17 h x1 x5 _ hq) (cwV 2 C.2.2.2.2.2.1 (gU_V mw750 mw751 mw752 mw23 mw753) rfl rfl rfl (by decide +kernel) ⟨Nat.le_of_ble_eq_true rfl, Nat.le_of_ble_eq_true rfl⟩) (k_preV hK hW (shC_lt hr17 (by decide)) (ceC_7 hr17) (q := (RX7, TX7, 10)) rfl) rfl rfl hl.1 rfl (lv_room (Nat.le_of_ble_eq_true rfl)) dX11_number_74 ⟨Nat.le_refl 0, Nat.le_refl 0⟩) (fun r18 h19 H locs hq hW => ?_)
    rw [hq.1] at hW
    have hq := hq.2
    refine lv_i2l (v := r18.toInt64) hx hb dX11_number_77 rfl ?_
    refine k_cl hW (va_runS (As := [.long x3, .long (r18.toInt64)]) (rest := []) (k_fix C) (c_X11_paired l G h x3 (r18.toInt64) _ hq) (va_cwS 2 C.2.2.2.2.2.1 (gU_S mw1488 mw1489 mw2 mw1490) rfl rfl rfl (by decide +kernel) ⟨Nat.le_of_ble_eq_true rfl, Nat.le_of_ble_eq_true rfl⟩) (k_preS hK hW) rfl rfl hl.1 rfl (lv_room (Nat.le_of_ble_eq_true rfl)) dX11_number_78 ⟨Nat.le_refl 0, Nat.le_refl 0⟩) (fun r20 h21 H locs hq hW => ?_)
    rw [hq.1] at hW
    have hq := hq.2
    refine lv_lstore_n (lv' := [(3, .long r20), (0, .ref (G.2.2 0)), (1, .int x1), (2, .int x2), (5, .int x5)]) hx hb dX11_number_81 rfl hl (by decide) rfl (fun ls hl => ?_)
    obtain ⟨x5_22, ex5_22⟩ : ∃ y : Int32, y = x5 + 1 := ⟨_, rfl⟩
    have hq := hq x5_22 ex5_22
    refine lv_iinc (v := x5_22) (lv' := [(5, .int x5_22), (3, .long r20), (0, .ref (G.2.2 0)), (1, .int x1), (2, .int x2)]) hx hb dX11_number_82 hl (k := 4) rfl (by rw [ex5_22]; rfl) (by decide) rfl (fun ls hl => ?_)
    refine lv_goto (tgt := 60) hx hb dX11_number_85 (by decide) ?_
    exact hX60 _ _ _ _ _ hW (lv_sub hl [2, 3, 4, 1, 0] rfl) hq
theorem k_X11_number_60 {Q : Int64 → Prop} {x1 : Int32} {x2 : Int32} {h : hp} (C : kC p s m args meth c cX11_number 6 (some .long) RX11 wUX11_number) (hK : kK G s) {x3 : Int64} {x5 : Int32} {H : Heap} {locs : List Loc} {ls : Array Slot} (hW : kW SC G h (aS SC G) s H locs) (hl : lv_has ls 6 [(0, .ref (G.2.2 0)), (1, .int x1), (2, .int x2), (3, .long x3), (5, .int x5)]) (hq : w_X11_number_60 Q x1 x2 h x3 x5) : W p l e rmX11_number s m args below meth c H locs 0 0 (MQ below (va_Ql (fun r9 h9 => h9 = h ∧ Q r9) (kB SC G) (aS SC G)) args s 0 0 (aS SC G)) (F0 m 60 ls []) := by
  have key := hq (fun (q : Int64 × Int32) => ∀ (H : Heap) (locs : List Loc) (ls : Array Slot), kW SC G h (aS SC G) s H locs → lv_has ls 6 [(0, .ref (G.2.2 0)), (1, .int x1), (2, .int x2), (3, .long q.1), (5, .int q.2)] → W p l e rmX11_number s m args below meth c H locs 0 0 (MQ below (va_Ql (fun r9 h9 => h9 = h ∧ Q r9) (kB SC G) (aS SC G)) args s 0 0 (aS SC G)) (F0 m 60 ls []))
    (fun q hq H locs ls hW hl => k_X11_number_b60 C hK (fun x3 x5 H locs ls hW hl hI => hI H locs ls hW hl) hW hl hq)
  exact key _ _ _ hW hl
theorem k_X11_number_0 {Q : Int64 → Prop} {x1 : Int32} {h : hp} (C : kC p s m args meth c cX11_number 6 (some .long) RX11 wUX11_number) (hK : kK G s) {H : Heap} {locs : List Loc} {ls : Array Slot} (hW : kW SC G h (aS SC G) s H locs) (hl : lv_has ls 6 [(0, .ref (G.2.2 0)), (1, .int x1)]) (hq : w_X11_number_0 Q x1 h) : W p l e rmX11_number s m args below meth c H locs 0 0 (MQ below (va_Ql (fun r9 h9 => h9 = h ∧ Q r9) (kB SC G) (aS SC G)) args s 0 0 (aS SC G)) (F0 m 0 ls []) := by
  have hx := C.1
  have hb := C.2.1
  unfold w_X11_number_0 at hq
  refine lv_aload_n hx hb dX11_number_0 rfl (lv_at hl 0 rfl) ?_
  refine lv_iload_n hx hb dX11_number_1 rfl (lv_at hl 1 rfl) ?_
  refine k_ci hW (va_runV (As := [.int x1]) (rest := []) (k_fix C) (c_X11_isRow l G h x1 _ hq) (cwV 1 C.2.2.2.2.2.1 (gU_V mw745 mw746 mw747 mw2 mw748) rfl rfl rfl (by decide +kernel) ⟨Nat.le_of_ble_eq_true rfl, Nat.le_of_ble_eq_true rfl⟩) (k_preV hK hW (shC_lt (rfl : shC 0 = 11) (by decide)) (ceC_11 (rfl : shC 0 = 11)) (q := (RX11, TX11, 11)) rfl) rfl rfl hl.1 rfl (lv_room (Nat.le_of_ble_eq_true rfl)) dX11_number_2 ⟨Nat.le_refl 0, Nat.le_refl 0⟩) (fun r1 h2 H locs hq hW => ?_)
  rw [hq.1] at hW
  have hq := hq.2
  refine lv_if_ne (tgt := 12) hx hb dX11_number_5 (by decide) (fun c3 => ?_) (fun c3 => ?_)
  · have hq := hq.1 c3
    refine lv_aload_n hx hb dX11_number_12 rfl (lv_at hl 0 rfl) ?_
    refine gt11_4 C hK hW (rfl : shC 0 = 11) (List.mem_cons_of_mem _ mw24) (fun _ h9 => List.mem_cons_of_mem _ (inU_wsX110 _ h9)) dX11_number_13 ?_
    have hr4 := hq.1
    have hq := hq.2
    refine gt7_1 C hK hW hr4 (List.mem_cons_of_mem _ mw744) (fun _ h9 => List.mem_cons_of_mem _ (inU_wsX70 _ h9)) dX11_number_16 ?_
    refine lv_iload_n hx hb dX11_number_19 rfl (lv_at hl 1 rfl) ?_
    refine k_iald C hK hW (shC_lt (sl7_1 hr4).1 (by decide)) (ceC_14 (sl7_1 hr4).1 (sl7_1 hr4).2) hq.1 dX11_number_20 ?_
    have hq := hq.2
    refine lv_topi (fun x2_5 ex2_5 => ?_)
    have hq := hq x2_5 ex2_5
    refine lv_istore_n (lv' := [(2, .int x2_5), (0, .ref (G.2.2 0)), (1, .int x1)]) hx hb dX11_number_21 rfl hl (by decide) rfl (fun ls hl => ?_)
    refine lv_iload_n hx hb dX11_number_22 rfl (lv_at hl 0 rfl) ?_
    refine lv_if_eq (tgt := 42) hx hb dX11_number_23 (by decide) (fun c6 => ?_) (fun c6 => ?_)
    · have hq := hq.1 c6
      refine lv_ldc2 (v := (-2)) hx hb C.2.2.2.2.1 (C.2.2.2.2.2.1 _ (List.mem_cons_of_mem _ mw803)) dX11_number_42 ?_
      exact k_lret rfl C hW dX11_number_45 ⟨rfl, hq⟩
    · have hq := hq.2 c6
      refine lv_iload_n hx hb dX11_number_26 rfl (lv_at hl 0 rfl) ?_
      refine lv_iconst (v := 4) hx hb dX11_number_27 (by decide) ?_
      refine lv_icmp_gt (tgt := 42) hx hb dX11_number_28 (by decide) (fun c7 => ?_) (fun c7 => ?_)
      · have hq := hq.1 c7
        refine lv_ldc2 (v := (-2)) hx hb C.2.2.2.2.1 (C.2.2.2.2.2.1 _ (List.mem_cons_of_mem _ mw803)) dX11_number_42 ?_
        exact k_lret rfl C hW dX11_number_45 ⟨rfl, hq⟩
      · have hq := hq.2 c7
        refine lv_aload_n hx hb dX11_number_31 rfl (lv_at hl 1 rfl) ?_
        refine gt11_4 C hK hW (rfl : shC 0 = 11) (List.mem_cons_of_mem _ mw24) (fun _ h9 => List.mem_cons_of_mem _ (inU_wsX110 _ h9)) dX11_number_32 ?_
        have hr8 := hq.1
        have hq := hq.2
        refine lv_iload_n hx hb dX11_number_35 rfl (lv_at hl 2 rfl) ?_
        refine k_ci hW (va_runV (As := [.int x1]) (rest := []) (k_fix C) (c_X7_isSomeBelowZero l G hr8 h x1 _ hq) (cwV 1 C.2.2.2.2.2.1 (gU_V mw804 mw805 mw806 mw23 mw807) rfl rfl rfl (by decide +kernel) ⟨Nat.le_of_ble_eq_true rfl, Nat.le_of_ble_eq_true rfl⟩) (k_preV hK hW (shC_lt hr8 (by decide)) (ceC_7 hr8) (q := (RX7, TX7, 10)) rfl) rfl rfl hl.1 rfl (lv_room (Nat.le_of_ble_eq_true rfl)) dX11_number_36 ⟨Nat.le_refl 0, Nat.le_refl 0⟩) (fun r9 h10 H locs hq hW => ?_)
        rw [hq.1] at hW
        have hq := hq.2
        refine lv_if_eq (tgt := 46) hx hb dX11_number_39 (by decide) (fun c11 => ?_) (fun c11 => ?_)
        · have hq := hq.1 c11
          refine lv_aload_n hx hb dX11_number_46 rfl (lv_at hl 1 rfl) ?_
          refine gt11_4 C hK hW (rfl : shC 0 = 11) (List.mem_cons_of_mem _ mw24) (fun _ h9 => List.mem_cons_of_mem _ (inU_wsX110 _ h9)) dX11_number_47 ?_
          have hr12 := hq.1
          have hq := hq.2
          refine lv_iload_n hx hb dX11_number_50 rfl (lv_at hl 2 rfl) ?_
          refine lv_iconst (v := 0) hx hb dX11_number_51 (by decide) ?_
          refine k_ci hW (va_runV (As := [.int x1, .int 0]) (rest := []) (k_fix C) (c_X7_numberAt l G hr12 h x1 0 _ hq) (cwV 2 C.2.2.2.2.2.1 (gU_V mw750 mw751 mw752 mw23 mw753) rfl rfl rfl (by decide +kernel) ⟨Nat.le_of_ble_eq_true rfl, Nat.le_of_ble_eq_true rfl⟩) (k_preV hK hW (shC_lt hr12 (by decide)) (ceC_7 hr12) (q := (RX7, TX7, 10)) rfl) rfl rfl hl.1 rfl (lv_room (Nat.le_of_ble_eq_true rfl)) dX11_number_52 ⟨Nat.le_refl 0, Nat.le_refl 0⟩) (fun r13 h14 H locs hq hW => ?_)
          rw [hq.1] at hW
          have hq := hq.2
          refine lv_i2l (v := r13.toInt64) hx hb dX11_number_55 rfl ?_
          refine lv_topl (fun x3_15 ex3_15 => ?_)
          have hq := hq x3_15 ex3_15
          refine lv_lstore_n (lv' := [(3, .long x3_15), (2, .int x2_5), (0, .ref (G.2.2 0)), (1, .int x1)]) hx hb dX11_number_56 rfl hl (by decide) rfl (fun ls hl => ?_)
          refine lv_iconst (v := 1) hx hb dX11_number_57 (by decide) ?_
          refine lv_istore (lv' := [(5, .int 1), (3, .long x3_15), (2, .int x2_5), (0, .ref (G.2.2 0)), (1, .int x1)]) hx hb dX11_number_58 hl (by decide) rfl (fun ls hl => ?_)
          exact k_X11_number_60 C hK hW (lv_sub hl [3, 4, 2, 1, 0] rfl) hq
        · have hq := hq.2 c11
          refine lv_ldc2 (v := (-2)) hx hb C.2.2.2.2.1 (C.2.2.2.2.2.1 _ (List.mem_cons_of_mem _ mw803)) dX11_number_42 ?_
          exact k_lret rfl C hW dX11_number_45 ⟨rfl, hq⟩
  · have hq := hq.2 c3
    refine lv_ldc2 (v := (-1)) hx hb C.2.2.2.2.1 (C.2.2.2.2.2.1 _ (List.mem_cons_of_mem _ mw802)) dX11_number_8 ?_
    exact k_lret rfl C hW dX11_number_11 ⟨rfl, hq⟩
theorem c_X11_number (l : Launch) (G : wG) (h : hp) (x1 : Int32) (Q : Int64 → Prop) (hq : w_X11_number h x1 Q) : ctL l SC G yX11_number wUX11_number rmX11_number h [.ref (G.2.2 0), .int x1] (fun r9 h9 => h9 = h ∧ Q r9) := by
  refine k_start (cc := cX11_number) (maxL := 6) (rt := (some .long)) (own := RX11) (by decide +kernel) rfl rfl (Nat.le_of_ble_eq_true rfl) ?_
  intro p e s m below meth c ls C hK hW hl
  exact k_X11_number_0 C hK hW hl hq
theorem k_X11_slotsThatHold_b4 {Q : Int32 → Prop} {X4 : Int32 × Int32 → Prop} {h : hp} (C : kC p s m args meth c cX11_slotsThatHold 3 (some .int) RX11 wUX11_slotsThatHold) (hK : kK G s) (hX4 : ∀ (x1 : Int32) (x2 : Int32) (H : Heap) (locs : List Loc) (ls : Array Slot), kW SC G h (aS SC G) s H locs → lv_has ls 3 [(0, .ref (G.2.2 0)), (1, .int x1), (2, .int x2)] → X4 (x1, x2) → W p l e rmX11_slotsThatHold s m args below meth c H locs 0 0 (MQ below (va_Qi (fun r9 h9 => h9 = h ∧ Q r9) (kB SC G) (aS SC G)) args s 0 0 (aS SC G)) (F0 m 4 ls [])) {x1 : Int32} {x2 : Int32} {H : Heap} {locs : List Loc} {ls : Array Slot} (hW : kW SC G h (aS SC G) s H locs) (hl : lv_has ls 3 [(0, .ref (G.2.2 0)), (1, .int x1), (2, .int x2)]) (hq : w_X11_slotsThatHold_b4 Q h X4 x1 x2) : W p l e rmX11_slotsThatHold s m args below meth c H locs 0 0 (MQ below (va_Qi (fun r9 h9 => h9 = h ∧ Q r9) (kB SC G) (aS SC G)) args s 0 0 (aS SC G)) (F0 m 4 ls []) := by
  have hx := C.1
  have hb := C.2.1
  unfold w_X11_slotsThatHold_b4 at hq
  refine lv_iload_n hx hb dX11_slotsThatHold_4 rfl (lv_at hl 2 rfl) ?_
  refine lv_iconst (v := 3) hx hb dX11_slotsThatHold_5 (by decide) ?_
  refine lv_icmp_ge (tgt := 30) hx hb dX11_slotsThatHold_6 (by decide) (fun c1 => ?_) (fun c1 => ?_)
  · have hq := hq.1 c1
    refine lv_iload_n hx hb dX11_slotsThatHold_30 rfl (lv_at hl 1 rfl) ?_
    exact k_iret rfl C hW dX11_slotsThatHold_31 ⟨rfl, hq⟩
  · have hq := hq.2 c1
    refine lv_aload_n hx hb dX11_slotsThatHold_9 rfl (lv_at hl 0 rfl) ?_
    refine gt11_6 C hK hW (rfl : shC 0 = 11) (List.mem_cons_of_mem _ mw29) (fun _ h9 => List.mem_cons_of_mem _ (inU_wsX110 _ h9)) dX11_slotsThatHold_10 ?_
    refine lv_iload_n hx hb dX11_slotsThatHold_13 rfl (lv_at hl 2 rfl) ?_
    have hv2 := hq.1
    have hq := hq.2
    refine k_aald C hK hW (shC_lt (rfl : shC 63 = 17) (by decide)) (t0 := 4) rfl rfl (ceC_17 (rfl : shC 63 = 17)) hv2 (sl_if hv2) dX11_slotsThatHold_14 ?_
    refine gt9_3 C hK hW (sl_T hv2) (List.mem_cons_of_mem _ mw248) (fun _ h9 => List.mem_cons_of_mem _ (inU_wsX90 _ h9)) dX11_slotsThatHold_15 ?_
    refine lv_if_eq (tgt := 24) hx hb dX11_slotsThatHold_18 (by decide) (fun c3 => ?_) (fun c3 => ?_)
    · have hq := hq.1 c3
      obtain ⟨x2_4, ex2_4⟩ : ∃ y : Int32, y = x2 + 1 := ⟨_, rfl⟩
      have hq := hq x2_4 ex2_4
      refine lv_iinc (v := x2_4) (lv' := [(2, .int x2_4), (0, .ref (G.2.2 0)), (1, .int x1)]) hx hb dX11_slotsThatHold_24 hl (k := 2) rfl (by rw [ex2_4]; rfl) (by decide) rfl (fun ls hl => ?_)
      refine lv_goto (tgt := 4) hx hb dX11_slotsThatHold_27 (by decide) ?_
      exact hX4 _ _ _ _ _ hW (lv_sub hl [1, 2, 0] rfl) hq
    · have hq := hq.2 c3
      obtain ⟨x1_5, ex1_5⟩ : ∃ y : Int32, y = x1 + 1 := ⟨_, rfl⟩
      have hq := hq x1_5 ex1_5
      refine lv_iinc (v := x1_5) (lv' := [(1, .int x1_5), (0, .ref (G.2.2 0)), (2, .int x2)]) hx hb dX11_slotsThatHold_21 hl (k := 1) rfl (by rw [ex1_5]; rfl) (by decide) rfl (fun ls hl => ?_)
      obtain ⟨x2_6, ex2_6⟩ : ∃ y : Int32, y = x2 + 1 := ⟨_, rfl⟩
      have hq := hq x2_6 ex2_6
      refine lv_iinc (v := x2_6) (lv' := [(2, .int x2_6), (1, .int x1_5), (0, .ref (G.2.2 0))]) hx hb dX11_slotsThatHold_24 hl (k := 2) rfl (by rw [ex2_6]; rfl) (by decide) rfl (fun ls hl => ?_)
      refine lv_goto (tgt := 4) hx hb dX11_slotsThatHold_27 (by decide) ?_
      exact hX4 _ _ _ _ _ hW (lv_sub hl [2, 1, 0] rfl) hq
theorem k_X11_slotsThatHold_4 {Q : Int32 → Prop} {h : hp} (C : kC p s m args meth c cX11_slotsThatHold 3 (some .int) RX11 wUX11_slotsThatHold) (hK : kK G s) {x1 : Int32} {x2 : Int32} {H : Heap} {locs : List Loc} {ls : Array Slot} (hW : kW SC G h (aS SC G) s H locs) (hl : lv_has ls 3 [(0, .ref (G.2.2 0)), (1, .int x1), (2, .int x2)]) (hq : w_X11_slotsThatHold_4 Q h x1 x2) : W p l e rmX11_slotsThatHold s m args below meth c H locs 0 0 (MQ below (va_Qi (fun r9 h9 => h9 = h ∧ Q r9) (kB SC G) (aS SC G)) args s 0 0 (aS SC G)) (F0 m 4 ls []) := by
  have key := hq (fun (q : Int32 × Int32) => ∀ (H : Heap) (locs : List Loc) (ls : Array Slot), kW SC G h (aS SC G) s H locs → lv_has ls 3 [(0, .ref (G.2.2 0)), (1, .int q.1), (2, .int q.2)] → W p l e rmX11_slotsThatHold s m args below meth c H locs 0 0 (MQ below (va_Qi (fun r9 h9 => h9 = h ∧ Q r9) (kB SC G) (aS SC G)) args s 0 0 (aS SC G)) (F0 m 4 ls []))
    (fun q hq H locs ls hW hl => k_X11_slotsThatHold_b4 C hK (fun x1 x2 H locs ls hW hl hI => hI H locs ls hW hl) hW hl hq)
  exact key _ _ _ hW hl
theorem k_X11_slotsThatHold_0 {Q : Int32 → Prop} {h : hp} (C : kC p s m args meth c cX11_slotsThatHold 3 (some .int) RX11 wUX11_slotsThatHold) (hK : kK G s) {H : Heap} {locs : List Loc} {ls : Array Slot} (hW : kW SC G h (aS SC G) s H locs) (hl : lv_has ls 3 [(0, .ref (G.2.2 0))]) (hq : w_X11_slotsThatHold_0 Q h) : W p l e rmX11_slotsThatHold s m args below meth c H locs 0 0 (MQ below (va_Qi (fun r9 h9 => h9 = h ∧ Q r9) (kB SC G) (aS SC G)) args s 0 0 (aS SC G)) (F0 m 0 ls []) := by
  have hx := C.1
  have hb := C.2.1
  unfold w_X11_slotsThatHold_0 at hq
  refine lv_iconst (v := 0) hx hb dX11_slotsThatHold_0 (by decide) ?_
  refine lv_istore_n (lv' := [(1, .int 0), (0, .ref (G.2.2 0))]) hx hb dX11_slotsThatHold_1 rfl hl (by decide) rfl (fun ls hl => ?_)
  refine lv_iconst (v := 0) hx hb dX11_slotsThatHold_2 (by decide) ?_
  refine lv_istore_n (lv' := [(2, .int 0), (1, .int 0), (0, .ref (G.2.2 0))]) hx hb dX11_slotsThatHold_3 rfl hl (by decide) rfl (fun ls hl => ?_)
  exact k_X11_slotsThatHold_4 C hK hW (lv_sub hl [2, 1, 0] rfl) hq
theorem c_X11_slotsThatHold (l : Launch) (G : wG) (h : hp) (Q : Int32 → Prop) (hq : w_X11_slotsThatHold h Q) : ctI l SC G yX11_slotsThatHold wUX11_slotsThatHold rmX11_slotsThatHold h [.ref (G.2.2 0)] (fun r9 h9 => h9 = h ∧ Q r9) := by
  refine k_start (cc := cX11_slotsThatHold) (maxL := 3) (rt := (some .int)) (own := RX11) (by decide +kernel) rfl rfl (Nat.le_of_ble_eq_true rfl) ?_
  intro p e s m below meth c ls C hK hW hl
  exact k_X11_slotsThatHold_0 C hK hW hl hq
theorem k_X11_count_0 {Q : Int32 → Prop} {x1 : Int32} {h : hp} (C : kC p s m args meth c cX11_count 2 (some .int) RX11 wUX11_count) (hK : kK G s) {H : Heap} {locs : List Loc} {ls : Array Slot} (hW : kW SC G h (aS SC G) s H locs) (hl : lv_has ls 2 [(0, .ref (G.2.2 0)), (1, .int x1)]) (hq : w_X11_count_0 Q x1 h) : W p l e rmX11_count s m args below meth c H locs 0 0 (MQ below (va_Qi (fun r9 h9 => h9 = h ∧ Q r9) (kB SC G) (aS SC G)) args s 0 0 (aS SC G)) (F0 m 0 ls []) := by
  have hx := C.1
  have hb := C.2.1
  unfold w_X11_count_0 at hq
  refine lv_iload_n hx hb dX11_count_0 rfl (lv_at hl 1 rfl) ?_
  refine lv_topi (fun sw1 esw1 => ?_)
  have hq := hq sw1 esw1
  by_cases c2 : sw1 = 0
  · have hq := hq.1 c2
    refine k_top c2 ?_
    refine lv_tableIn (tgt := 64) (off := 63) hx hb dX11_count_1 (by decide) (by decide) (by decide) (by decide) ?_
    refine lv_aload_n hx hb dX11_count_64 rfl (lv_at hl 0 rfl) ?_
    refine gt11_4 C hK hW (rfl : shC 0 = 11) (List.mem_cons_of_mem _ mw24) (fun _ h9 => List.mem_cons_of_mem _ (inU_wsX110 _ h9)) dX11_count_65 ?_
    have hr3 := hq.1
    have hq := hq.2
    refine gt7_0 C hK hW hr3 (List.mem_cons_of_mem _ mw749) (fun _ h9 => List.mem_cons_of_mem _ (inU_wsX70 _ h9)) dX11_count_68 ?_
    exact k_iret rfl C hW dX11_count_71 ⟨rfl, hq⟩
  have hq := hq.2
  by_cases c4 : sw1 = 1
  · have hq := hq.1 c4
    refine k_top c4 ?_
    refine lv_tableIn (tgt := 72) (off := 71) hx hb dX11_count_1 (by decide) (by decide) (by decide) (by decide) ?_
    refine lv_aload_n hx hb dX11_count_72 rfl (lv_at hl 0 rfl) ?_
    refine gt11_4 C hK hW (rfl : shC 0 = 11) (List.mem_cons_of_mem _ mw24) (fun _ h9 => List.mem_cons_of_mem _ (inU_wsX110 _ h9)) dX11_count_73 ?_
    have hr5 := hq.1
    have hq := hq.2
    refine gt7_5 C hK hW hr5 (List.mem_cons_of_mem _ mw1224) (fun _ h9 => List.mem_cons_of_mem _ (inU_wsX70 _ h9)) dX11_count_76 ?_
    refine gt6_0 C hK hW (sl7_5 hr5) (List.mem_cons_of_mem _ mw1303) (fun _ h9 => List.mem_cons_of_mem _ (inU_wsX60 _ h9)) dX11_count_79 ?_
    exact k_iret rfl C hW dX11_count_82 ⟨rfl, hq⟩
  have hq := hq.2
  by_cases c6 : sw1 = 2
  · have hq := hq.1 c6
    refine k_top c6 ?_
    refine lv_tableIn (tgt := 83) (off := 82) hx hb dX11_count_1 (by decide) (by decide) (by decide) (by decide) ?_
    refine lv_aload_n hx hb dX11_count_83 rfl (lv_at hl 0 rfl) ?_
    refine gt11_4 C hK hW (rfl : shC 0 = 11) (List.mem_cons_of_mem _ mw24) (fun _ h9 => List.mem_cons_of_mem _ (inU_wsX110 _ h9)) dX11_count_84 ?_
    have hr7 := hq.1
    have hq := hq.2
    refine gt7_6 C hK hW hr7 (List.mem_cons_of_mem _ mw1166) (fun _ h9 => List.mem_cons_of_mem _ (inU_wsX70 _ h9)) dX11_count_87 ?_
    refine gt0_0 C hK hW (sl7_6 hr7) (List.mem_cons_of_mem _ mw1548) (fun _ h9 => List.mem_cons_of_mem _ (inU_wsX00 _ h9)) dX11_count_90 ?_
    exact k_iret rfl C hW dX11_count_93 ⟨rfl, hq⟩
  have hq := hq.2
  by_cases c8 : sw1 = 3
  · have hq := hq.1 c8
    refine k_top c8 ?_
    refine lv_tableIn (tgt := 94) (off := 93) hx hb dX11_count_1 (by decide) (by decide) (by decide) (by decide) ?_
    refine lv_aload_n hx hb dX11_count_94 rfl (lv_at hl 0 rfl) ?_
    refine gt11_4 C hK hW (rfl : shC 0 = 11) (List.mem_cons_of_mem _ mw24) (fun _ h9 => List.mem_cons_of_mem _ (inU_wsX110 _ h9)) dX11_count_95 ?_
    have hr9 := hq.1
    have hq := hq.2
    refine gt7_5 C hK hW hr9 (List.mem_cons_of_mem _ mw1224) (fun _ h9 => List.mem_cons_of_mem _ (inU_wsX70 _ h9)) dX11_count_98 ?_
    refine gt6_1 C hK hW (sl7_5 hr9) (List.mem_cons_of_mem _ mw1440) (fun _ h9 => List.mem_cons_of_mem _ (inU_wsX60 _ h9)) dX11_count_101 ?_
    exact k_iret rfl C hW dX11_count_104 ⟨rfl, hq⟩
  have hq := hq.2
  by_cases c10 : sw1 = 4
  · have hq := hq.1 c10
    refine k_top c10 ?_
    refine lv_tableIn (tgt := 105) (off := 104) hx hb dX11_count_1 (by decide) (by decide) (by decide) (by decide) ?_
    refine lv_aload_n hx hb dX11_count_105 rfl (lv_at hl 0 rfl) ?_
    refine gt11_4 C hK hW (rfl : shC 0 = 11) (List.mem_cons_of_mem _ mw24) (fun _ h9 => List.mem_cons_of_mem _ (inU_wsX110 _ h9)) dX11_count_106 ?_
    have hr11 := hq.1
    have hq := hq.2
    refine gt7_7 C hK hW hr11 (List.mem_cons_of_mem _ mw249) (fun _ h9 => List.mem_cons_of_mem _ (inU_wsX70 _ h9)) dX11_count_109 ?_
    exact k_iret rfl C hW dX11_count_112 ⟨rfl, hq⟩
  have hq := hq.2
  by_cases c12 : sw1 = 5
  · have hq := hq.1 c12
    refine k_top c12 ?_
    refine lv_tableIn (tgt := 113) (off := 112) hx hb dX11_count_1 (by decide) (by decide) (by decide) (by decide) ?_
    refine lv_aload_n hx hb dX11_count_113 rfl (lv_at hl 0 rfl) ?_
    refine gt11_4 C hK hW (rfl : shC 0 = 11) (List.mem_cons_of_mem _ mw24) (fun _ h9 => List.mem_cons_of_mem _ (inU_wsX110 _ h9)) dX11_count_114 ?_
    have hr13 := hq.1
    have hq := hq.2
    refine gt7_8 C hK hW hr13 (List.mem_cons_of_mem _ mw250) (fun _ h9 => List.mem_cons_of_mem _ (inU_wsX70 _ h9)) dX11_count_117 ?_
    exact k_iret rfl C hW dX11_count_120 ⟨rfl, hq⟩
  have hq := hq.2
  by_cases c14 : sw1 = 6
  · have hq := hq.1 c14
    refine k_top c14 ?_
    refine lv_tableIn (tgt := 121) (off := 120) hx hb dX11_count_1 (by decide) (by decide) (by decide) (by decide) ?_
    refine lv_aload_n hx hb dX11_count_121 rfl (lv_at hl 0 rfl) ?_
    refine gt11_1 C hK hW (rfl : shC 0 = 11) (List.mem_cons_of_mem _ mw15) (fun _ h9 => List.mem_cons_of_mem _ (inU_wsX110 _ h9)) dX11_count_122 ?_
    exact k_iret rfl C hW dX11_count_125 ⟨rfl, hq⟩
  have hq := hq.2
  by_cases c15 : sw1 = 7
  · have hq := hq.1 c15
    refine k_top c15 ?_
    refine lv_tableIn (tgt := 126) (off := 125) hx hb dX11_count_1 (by decide) (by decide) (by decide) (by decide) ?_
    refine lv_aload_n hx hb dX11_count_126 rfl (lv_at hl 0 rfl) ?_
    refine gt11_5 C hK hW (rfl : shC 0 = 11) (List.mem_cons_of_mem _ mw28) (fun _ h9 => List.mem_cons_of_mem _ (inU_wsX110 _ h9)) dX11_count_127 ?_
    refine gt9_0 C hK hW (rfl : shC 51 = 9) (List.mem_cons_of_mem _ mw933) (fun _ h9 => List.mem_cons_of_mem _ (inU_wsX90 _ h9)) dX11_count_130 ?_
    exact k_iret rfl C hW dX11_count_133 ⟨rfl, hq⟩
  have hq := hq.2
  by_cases c16 : sw1 = 8
  · have hq := hq.1 c16
    refine k_top c16 ?_
    refine lv_tableIn (tgt := 134) (off := 133) hx hb dX11_count_1 (by decide) (by decide) (by decide) (by decide) ?_
    refine lv_aload_n hx hb dX11_count_134 rfl (lv_at hl 0 rfl) ?_
    refine k_ci hW (va_runV (As := []) (rest := []) (k_fix C) (c_X11_slotsThatHold l G h _ hq) (cwV 0 C.2.2.2.2.2.1 (gU_V mw1549 mw1550 mw1551 mw2 mw1552) rfl rfl rfl (by decide +kernel) ⟨Nat.le_of_ble_eq_true rfl, Nat.le_of_ble_eq_true rfl⟩) (k_preV hK hW (shC_lt (rfl : shC 0 = 11) (by decide)) (ceC_11 (rfl : shC 0 = 11)) (q := (RX11, TX11, 11)) rfl) rfl rfl hl.1 rfl (lv_room (Nat.le_of_ble_eq_true rfl)) dX11_count_135 ⟨Nat.le_refl 0, Nat.le_refl 0⟩) (fun r17 h18 H locs hq hW => ?_)
    rw [hq.1] at hW
    have hq := hq.2
    exact k_iret rfl C hW dX11_count_138 ⟨rfl, hq⟩
  have hq := hq.2
  by_cases c19 : sw1 = 9
  · have hq := hq.1 c19
    refine k_top c19 ?_
    refine lv_tableIn (tgt := 139) (off := 138) hx hb dX11_count_1 (by decide) (by decide) (by decide) (by decide) ?_
    refine lv_aload_n hx hb dX11_count_139 rfl (lv_at hl 0 rfl) ?_
    refine gt11_4 C hK hW (rfl : shC 0 = 11) (List.mem_cons_of_mem _ mw24) (fun _ h9 => List.mem_cons_of_mem _ (inU_wsX110 _ h9)) dX11_count_140 ?_
    have hr20 := hq.1
    have hq := hq.2
    refine gt7_9 C hK hW hr20 (List.mem_cons_of_mem _ mw1331) (fun _ h9 => List.mem_cons_of_mem _ (inU_wsX70 _ h9)) dX11_count_143 ?_
    exact k_iret rfl C hW dX11_count_146 ⟨rfl, hq⟩
  have hq := hq.2
  by_cases c21 : sw1 = 10
  · have hq := hq.1 c21
    refine k_top c21 ?_
    refine lv_tableIn (tgt := 147) (off := 146) hx hb dX11_count_1 (by decide) (by decide) (by decide) (by decide) ?_
    refine lv_aload_n hx hb dX11_count_147 rfl (lv_at hl 0 rfl) ?_
    refine gt11_7 C hK hW (rfl : shC 0 = 11) (List.mem_cons_of_mem _ mw30) (fun _ h9 => List.mem_cons_of_mem _ (inU_wsX110 _ h9)) dX11_count_148 ?_
    exact k_iret rfl C hW dX11_count_151 ⟨rfl, hq⟩
  have hq := hq.2
  by_cases c22 : sw1 = 11
  · have hq := hq.1 c22
    refine k_top c22 ?_
    refine lv_tableIn (tgt := 152) (off := 151) hx hb dX11_count_1 (by decide) (by decide) (by decide) (by decide) ?_
    refine lv_aload_n hx hb dX11_count_152 rfl (lv_at hl 0 rfl) ?_
    refine gt11_8 C hK hW (rfl : shC 0 = 11) (List.mem_cons_of_mem _ mw31) (fun _ h9 => List.mem_cons_of_mem _ (inU_wsX110 _ h9)) dX11_count_153 ?_
    exact k_iret rfl C hW dX11_count_156 ⟨rfl, hq⟩
  have hq := hq.2
  have c23 : sw1.toInt < 0 ∨ 11 < sw1.toInt := by
    rcases Int.lt_or_le sw1.toInt 0 with q | q
    · exact Or.inl q
    · refine Or.inr (Int.not_le.mp fun q2 => ?_)
      have q3 : sw1 = Int32.ofInt sw1.toInt := (Int32.ofInt_toInt sw1).symm
      have q4 : sw1.toInt = 0 ∨ sw1.toInt = 1 ∨ sw1.toInt = 2 ∨ sw1.toInt = 3 ∨ sw1.toInt = 4 ∨ sw1.toInt = 5 ∨ sw1.toInt = 6 ∨ sw1.toInt = 7 ∨ sw1.toInt = 8 ∨ sw1.toInt = 9 ∨ sw1.toInt = 10 ∨ sw1.toInt = 11 := by omega
      rcases q4 with q4 | q4 | q4 | q4 | q4 | q4 | q4 | q4 | q4 | q4 | q4 | q4 <;> rw [q4] at q3 <;> simp_all
  refine lv_tableOut (tgt := 157) hx hb dX11_count_1 c23 (by decide) ?_
  have hq := hq c23
  refine lv_iconst (v := (-1)) hx hb dX11_count_157 (by decide) ?_
  exact k_iret rfl C hW dX11_count_158 ⟨rfl, hq⟩
theorem c_X11_count (l : Launch) (G : wG) (h : hp) (x1 : Int32) (Q : Int32 → Prop) (hq : w_X11_count h x1 Q) : ctI l SC G yX11_count wUX11_count rmX11_count h [.ref (G.2.2 0), .int x1] (fun r9 h9 => h9 = h ∧ Q r9) := by
  refine k_start (cc := cX11_count) (maxL := 2) (rt := (some .int)) (own := RX11) (by decide +kernel) rfl rfl (Nat.le_of_ble_eq_true rfl) ?_
  intro p e s m below meth c ls C hK hW hl
  exact k_X11_count_0 C hK hW hl hq
theorem k_X12_put_b3 {Q : hp → Prop} {X3 : Int32 × hp → Prop} {x1 : Int32} (C : kC p s m args meth c cX12_put 3 none RX12 wUX12_put) (hK : kK G s) (hX3 : ∀ (x2 : Int32) (h : hp) (H : Heap) (locs : List Loc) (ls : Array Slot), kW SM G h (aS SM G) s H locs → lv_has ls 3 [(0, .ref (G.2.2 0)), (1, .int x1), (2, .int x2)] → X3 (x2, h) → W p l e rmX12_put s m args below meth c H locs 0 0 (MQ below (va_Qv Q (kB SM G) (aS SM G)) args s 0 0 (aS SM G)) (F0 m 3 ls [])) {x2 : Int32} {h : hp} {H : Heap} {locs : List Loc} {ls : Array Slot} (hW : kW SM G h (aS SM G) s H locs) (hl : lv_has ls 3 [(0, .ref (G.2.2 0)), (1, .int x1), (2, .int x2)]) (hq : w_X12_put_b3 Q x1 X3 x2 h) : W p l e rmX12_put s m args below meth c H locs 0 0 (MQ below (va_Qv Q (kB SM G) (aS SM G)) args s 0 0 (aS SM G)) (F0 m 3 ls []) := by
  have hx := C.1
  have hb := C.2.1
  unfold w_X12_put_b3 at hq
  refine lv_iload_n hx hb dX12_put_3 rfl (lv_at hl 2 rfl) ?_
  refine lv_if_lt (tgt := 36) hx hb dX12_put_4 (by decide) (fun c1 => ?_) (fun c1 => ?_)
  · have hq := hq.1 c1
    exact k_vret rfl C hW dX12_put_36 hq
  · have hq := hq.2 c1
    refine lv_aload_n hx hb dX12_put_7 rfl (lv_at hl 0 rfl) ?_
    refine gt12_1 C hK hW (rfl : shM 0 = 12) (List.mem_cons_of_mem _ mw263) (fun _ h9 => List.mem_cons_of_mem _ (inU_wsX120 _ h9)) dX12_put_8 ?_
    refine lv_aload_n hx hb dX12_put_11 rfl (lv_at hl 0 rfl) ?_
    refine gt12_2 C hK hW (rfl : shM 0 = 12) (List.mem_cons_of_mem _ mw338) (fun _ h9 => List.mem_cons_of_mem _ (inU_wsX120 _ h9)) dX12_put_12 ?_
    refine lv_iload_n hx hb dX12_put_15 rfl (lv_at hl 1 rfl) ?_
    refine lv_iload_n hx hb dX12_put_16 rfl (lv_at hl 2 rfl) ?_
    refine k_ishr hx hb dX12_put_17 ?_
    refine lv_i2b (v := (jshr x1 x2).toInt8.toInt32) hx hb dX12_put_18 rfl ?_
    refine k_bast okM C hK hW (shM_lt (rfl : shM 1 = 13) (by decide)) (fun g9 => ceM_13 (rfl : shM 1 = 13) (rfl : lnM 1 = 2000)) hq.1 dX12_put_19 (fun H locs hW => ?_)
    have hq := hq.2
    obtain ⟨h2, eh2⟩ : ∃ z : hp, z = sI h 1 (ix (gI h 0 2)) (jb ((jshr x1 x2).toInt8.toInt32)) := ⟨_, rfl⟩
    rw [← eh2] at hW
    have hq := hq h2 eh2
    refine lv_aload_n hx hb dX12_put_20 rfl (lv_at hl 0 rfl) ?_
    refine lv_dup hx hb dX12_put_21 rfl ?_
    refine gt12_2 C hK hW (rfl : shM 0 = 12) (List.mem_cons_of_mem _ mw338) (fun _ h9 => List.mem_cons_of_mem _ (inU_wsX120 _ h9)) dX12_put_22 ?_
    refine lv_iconst (v := 1) hx hb dX12_put_25 (by decide) ?_
    refine lv_iadd hx hb dX12_put_26 ?_
    refine pt12_2 C hK hW (rfl : shM 0 = 12) (List.mem_cons_of_mem _ mw338) (fun _ h9 => List.mem_cons_of_mem _ (inU_wsX120 _ h9)) dX12_put_27 (fun h3 H locs eh3 hW => ?_)
    have hq := hq h3 eh3
    obtain ⟨x2_4, ex2_4⟩ : ∃ y : Int32, y = x2 + (-8) := ⟨_, rfl⟩
    have hq := hq x2_4 ex2_4
    refine lv_iinc (v := x2_4) (lv' := [(2, .int x2_4), (0, .ref (G.2.2 0)), (1, .int x1)]) hx hb dX12_put_30 hl (k := 2) rfl (by rw [ex2_4]; rfl) (by decide) rfl (fun ls hl => ?_)
    refine lv_goto (tgt := 3) hx hb dX12_put_33 (by decide) ?_
    exact hX3 _ _ _ _ _ hW (lv_sub hl [1, 2, 0] rfl) hq
theorem k_X12_put_3 {Q : hp → Prop} {x1 : Int32} (C : kC p s m args meth c cX12_put 3 none RX12 wUX12_put) (hK : kK G s) {x2 : Int32} {h : hp} {H : Heap} {locs : List Loc} {ls : Array Slot} (hW : kW SM G h (aS SM G) s H locs) (hl : lv_has ls 3 [(0, .ref (G.2.2 0)), (1, .int x1), (2, .int x2)]) (hq : w_X12_put_3 Q x1 x2 h) : W p l e rmX12_put s m args below meth c H locs 0 0 (MQ below (va_Qv Q (kB SM G) (aS SM G)) args s 0 0 (aS SM G)) (F0 m 3 ls []) := by
  have key := hq (fun (q : Int32 × hp) => ∀ (H : Heap) (locs : List Loc) (ls : Array Slot), kW SM G q.2 (aS SM G) s H locs → lv_has ls 3 [(0, .ref (G.2.2 0)), (1, .int x1), (2, .int q.1)] → W p l e rmX12_put s m args below meth c H locs 0 0 (MQ below (va_Qv Q (kB SM G) (aS SM G)) args s 0 0 (aS SM G)) (F0 m 3 ls []))
    (fun q hq H locs ls hW hl => k_X12_put_b3 C hK (fun x2 h H locs ls hW hl hI => hI H locs ls hW hl) hW hl hq)
  exact key _ _ _ hW hl
theorem k_X12_put_0 {Q : hp → Prop} {x1 : Int32} {h : hp} (C : kC p s m args meth c cX12_put 3 none RX12 wUX12_put) (hK : kK G s) {H : Heap} {locs : List Loc} {ls : Array Slot} (hW : kW SM G h (aS SM G) s H locs) (hl : lv_has ls 3 [(0, .ref (G.2.2 0)), (1, .int x1)]) (hq : w_X12_put_0 Q x1 h) : W p l e rmX12_put s m args below meth c H locs 0 0 (MQ below (va_Qv Q (kB SM G) (aS SM G)) args s 0 0 (aS SM G)) (F0 m 0 ls []) := by
  have hx := C.1
  have hb := C.2.1
  unfold w_X12_put_0 at hq
  refine lv_bipush (v := 24) hx hb dX12_put_0 (by decide) ?_
  refine lv_istore_n (lv' := [(2, .int 24), (0, .ref (G.2.2 0)), (1, .int x1)]) hx hb dX12_put_2 rfl hl (by decide) rfl (fun ls hl => ?_)
  exact k_X12_put_3 C hK hW (lv_sub hl [1, 2, 0] rfl) hq
theorem c_X12_put (l : Launch) (G : wG) (h : hp) (x1 : Int32) (Q : hp → Prop) (hq : w_X12_put h x1 Q) : ctV l SM G yX12_put wUX12_put rmX12_put h [.ref (G.2.2 0), .int x1] Q := by
  refine k_start (cc := cX12_put) (maxL := 3) (rt := none) (own := RX12) (by decide +kernel) rfl rfl (Nat.le_of_ble_eq_true rfl) ?_
  intro p e s m below meth c ls C hK hW hl
  exact k_X12_put_0 C hK hW hl hq
theorem k_X12_feed_0 {Q : Int32 → hp → Prop} {x1 : Int32} {x2 : Int32} {x3 : Int32} {x4 : Int32} {x5 : Int32} {h : hp} (C : kC p s m args meth c cX12_feed 6 (some .int) RX12 wUX12_feed) (hK : kK G s) {H : Heap} {locs : List Loc} {ls : Array Slot} (hW : kW SM G h (aS SM G) s H locs) (hl : lv_has ls 6 [(0, .ref (G.2.2 0)), (1, .int x1), (2, .int x2), (3, .int x3), (4, .int x4), (5, .int x5)]) (hq : w_X12_feed_0 Q x1 x2 x3 x4 x5 h) : W p l e rmX12_feed s m args below meth c H locs 0 0 (MQ below (va_Qi Q (kB SM G) (aS SM G)) args s 0 0 (aS SM G)) (F0 m 0 ls []) := by
  have hx := C.1
  have hb := C.2.1
  unfold w_X12_feed_0 at hq
  refine lv_aload_n hx hb dX12_feed_0 rfl (lv_at hl 0 rfl) ?_
  refine gt12_2 C hK hW (rfl : shM 0 = 12) (List.mem_cons_of_mem _ mw338) (fun _ h9 => List.mem_cons_of_mem _ (inU_wsX120 _ h9)) dX12_feed_1 ?_
  refine lv_bipush (v := 20) hx hb dX12_feed_4 (by decide) ?_
  refine lv_iadd hx hb dX12_feed_6 ?_
  refine lv_sipush (v := 2000) hx hb dX12_feed_7 (by decide) ?_
  refine lv_icmp_le (tgt := 15) hx hb dX12_feed_10 (by decide) (fun c1 => ?_) (fun c1 => ?_)
  · have hq := hq.1 c1
    refine lv_aload_n hx hb dX12_feed_15 rfl (lv_at hl 0 rfl) ?_
    refine lv_iload_n hx hb dX12_feed_16 rfl (lv_at hl 1 rfl) ?_
    refine k_cv hW (va_runV (As := [.int x1]) (rest := []) (k_fix C) (c_X12_put l G h x1 _ hq) (cwV 1 C.2.2.2.2.2.1 (gU_V mw339 mw340 mw341 mw5 mw342) rfl rfl rfl (by decide +kernel) ⟨Nat.le_of_ble_eq_true rfl, Nat.le_of_ble_eq_true rfl⟩) (k_preV hK hW (shM_lt (rfl : shM 0 = 12) (by decide)) (ceM_12 (rfl : shM 0 = 12)) (q := (RX12, TX12, 73)) rfl) rfl rfl hl.1 rfl (lv_room (Nat.le_of_ble_eq_true rfl)) dX12_feed_17 ⟨Nat.le_refl 0, Nat.le_refl 0⟩) (fun h2 H locs hq hW => ?_)
    refine lv_aload_n hx hb dX12_feed_20 rfl (lv_at hl 0 rfl) ?_
    refine lv_iload_n hx hb dX12_feed_21 rfl (lv_at hl 2 rfl) ?_
    refine k_cv hW (va_runV (As := [.int x2]) (rest := []) (k_fix C) (c_X12_put l G h2 x2 _ hq) (cwV 1 C.2.2.2.2.2.1 (gU_V mw339 mw340 mw341 mw5 mw342) rfl rfl rfl (by decide +kernel) ⟨Nat.le_of_ble_eq_true rfl, Nat.le_of_ble_eq_true rfl⟩) (k_preV hK hW (shM_lt (rfl : shM 0 = 12) (by decide)) (ceM_12 (rfl : shM 0 = 12)) (q := (RX12, TX12, 73)) rfl) rfl rfl hl.1 rfl (lv_room (Nat.le_of_ble_eq_true rfl)) dX12_feed_22 ⟨Nat.le_refl 0, Nat.le_refl 0⟩) (fun h3 H locs hq hW => ?_)
    refine lv_aload_n hx hb dX12_feed_25 rfl (lv_at hl 0 rfl) ?_
    refine lv_iload_n hx hb dX12_feed_26 rfl (lv_at hl 3 rfl) ?_
    refine k_cv hW (va_runV (As := [.int x3]) (rest := []) (k_fix C) (c_X12_put l G h3 x3 _ hq) (cwV 1 C.2.2.2.2.2.1 (gU_V mw339 mw340 mw341 mw5 mw342) rfl rfl rfl (by decide +kernel) ⟨Nat.le_of_ble_eq_true rfl, Nat.le_of_ble_eq_true rfl⟩) (k_preV hK hW (shM_lt (rfl : shM 0 = 12) (by decide)) (ceM_12 (rfl : shM 0 = 12)) (q := (RX12, TX12, 73)) rfl) rfl rfl hl.1 rfl (lv_room (Nat.le_of_ble_eq_true rfl)) dX12_feed_27 ⟨Nat.le_refl 0, Nat.le_refl 0⟩) (fun h4 H locs hq hW => ?_)
    refine lv_aload_n hx hb dX12_feed_30 rfl (lv_at hl 0 rfl) ?_
    refine lv_iload hx hb dX12_feed_31 (lv_at hl 4 rfl) ?_
    refine k_cv hW (va_runV (As := [.int x4]) (rest := []) (k_fix C) (c_X12_put l G h4 x4 _ hq) (cwV 1 C.2.2.2.2.2.1 (gU_V mw339 mw340 mw341 mw5 mw342) rfl rfl rfl (by decide +kernel) ⟨Nat.le_of_ble_eq_true rfl, Nat.le_of_ble_eq_true rfl⟩) (k_preV hK hW (shM_lt (rfl : shM 0 = 12) (by decide)) (ceM_12 (rfl : shM 0 = 12)) (q := (RX12, TX12, 73)) rfl) rfl rfl hl.1 rfl (lv_room (Nat.le_of_ble_eq_true rfl)) dX12_feed_33 ⟨Nat.le_refl 0, Nat.le_refl 0⟩) (fun h5 H locs hq hW => ?_)
    refine lv_aload_n hx hb dX12_feed_36 rfl (lv_at hl 0 rfl) ?_
    refine lv_iload hx hb dX12_feed_37 (lv_at hl 5 rfl) ?_
    refine k_cv hW (va_runV (As := [.int x5]) (rest := []) (k_fix C) (c_X12_put l G h5 x5 _ hq) (cwV 1 C.2.2.2.2.2.1 (gU_V mw339 mw340 mw341 mw5 mw342) rfl rfl rfl (by decide +kernel) ⟨Nat.le_of_ble_eq_true rfl, Nat.le_of_ble_eq_true rfl⟩) (k_preV hK hW (shM_lt (rfl : shM 0 = 12) (by decide)) (ceM_12 (rfl : shM 0 = 12)) (q := (RX12, TX12, 73)) rfl) rfl rfl hl.1 rfl (lv_room (Nat.le_of_ble_eq_true rfl)) dX12_feed_39 ⟨Nat.le_refl 0, Nat.le_refl 0⟩) (fun h6 H locs hq hW => ?_)
    refine lv_aload_n hx hb dX12_feed_42 rfl (lv_at hl 0 rfl) ?_
    refine gt12_2 C hK hW (rfl : shM 0 = 12) (List.mem_cons_of_mem _ mw338) (fun _ h9 => List.mem_cons_of_mem _ (inU_wsX120 _ h9)) dX12_feed_43 ?_
    exact k_iret rfl C hW dX12_feed_46 hq
  · have hq := hq.2 c1
    refine lv_iconst (v := (-1)) hx hb dX12_feed_13 (by decide) ?_
    exact k_iret rfl C hW dX12_feed_14 hq
theorem c_X12_feed (l : Launch) (G : wG) (h : hp) (x1 : Int32) (x2 : Int32) (x3 : Int32) (x4 : Int32) (x5 : Int32) (Q : Int32 → hp → Prop) (hq : w_X12_feed h x1 x2 x3 x4 x5 Q) : ctI l SM G yX12_feed wUX12_feed rmX12_feed h [.ref (G.2.2 0), .int x1, .int x2, .int x3, .int x4, .int x5] Q := by
  refine k_start (cc := cX12_feed) (maxL := 6) (rt := (some .int)) (own := RX12) (by decide +kernel) rfl rfl (Nat.le_of_ble_eq_true rfl) ?_
  intro p e s m below meth c ls C hK hW hl
  exact k_X12_feed_0 C hK hW hl hq
theorem k_X12_back_0 {Q : Int32 → hp → Prop} {x1 : Int32} {h : hp} (C : kC p s m args meth c cX12_back 2 (some .int) RX12 wUX12_back) (hK : kK G s) {H : Heap} {locs : List Loc} {ls : Array Slot} (hW : kW SM G h (aS SM G) s H locs) (hl : lv_has ls 2 [(0, .ref (G.2.2 0)), (1, .int x1)]) (hq : w_X12_back_0 Q x1 h) : W p l e rmX12_back s m args below meth c H locs 0 0 (MQ below (va_Qi Q (kB SM G) (aS SM G)) args s 0 0 (aS SM G)) (F0 m 0 ls []) := by
  have hx := C.1
  have hb := C.2.1
  unfold w_X12_back_0 at hq
  refine lv_iload_n hx hb dX12_back_0 rfl (lv_at hl 1 rfl) ?_
  refine lv_if_lt (tgt := 12) hx hb dX12_back_1 (by decide) (fun c1 => ?_) (fun c1 => ?_)
  · have hq := hq.1 c1
    refine lv_iconst (v := (-1)) hx hb dX12_back_12 (by decide) ?_
    exact k_iret rfl C hW dX12_back_13 hq
  · have hq := hq.2 c1
    refine lv_iload_n hx hb dX12_back_4 rfl (lv_at hl 1 rfl) ?_
    refine lv_aload_n hx hb dX12_back_5 rfl (lv_at hl 0 rfl) ?_
    refine gt12_2 C hK hW (rfl : shM 0 = 12) (List.mem_cons_of_mem _ mw338) (fun _ h9 => List.mem_cons_of_mem _ (inU_wsX120 _ h9)) dX12_back_6 ?_
    refine lv_icmp_le (tgt := 14) hx hb dX12_back_9 (by decide) (fun c2 => ?_) (fun c2 => ?_)
    · have hq := hq.1 c2
      refine lv_aload_n hx hb dX12_back_14 rfl (lv_at hl 0 rfl) ?_
      refine lv_dup hx hb dX12_back_15 rfl ?_
      refine gt12_2 C hK hW (rfl : shM 0 = 12) (List.mem_cons_of_mem _ mw338) (fun _ h9 => List.mem_cons_of_mem _ (inU_wsX120 _ h9)) dX12_back_16 ?_
      refine lv_iload_n hx hb dX12_back_19 rfl (lv_at hl 1 rfl) ?_
      refine lv_isub hx hb dX12_back_20 ?_
      refine pt12_2 C hK hW (rfl : shM 0 = 12) (List.mem_cons_of_mem _ mw338) (fun _ h9 => List.mem_cons_of_mem _ (inU_wsX120 _ h9)) dX12_back_21 (fun h3 H locs eh3 hW => ?_)
      have hq := hq h3 eh3
      refine lv_aload_n hx hb dX12_back_24 rfl (lv_at hl 0 rfl) ?_
      refine gt12_2 C hK hW (rfl : shM 0 = 12) (List.mem_cons_of_mem _ mw338) (fun _ h9 => List.mem_cons_of_mem _ (inU_wsX120 _ h9)) dX12_back_25 ?_
      exact k_iret rfl C hW dX12_back_28 hq
    · have hq := hq.2 c2
      refine lv_iconst (v := (-1)) hx hb dX12_back_12 (by decide) ?_
      exact k_iret rfl C hW dX12_back_13 hq
theorem c_X12_back (l : Launch) (G : wG) (h : hp) (x1 : Int32) (Q : Int32 → hp → Prop) (hq : w_X12_back h x1 Q) : ctI l SM G yX12_back wUX12_back rmX12_back h [.ref (G.2.2 0), .int x1] Q := by
  refine k_start (cc := cX12_back) (maxL := 2) (rt := (some .int)) (own := RX12) (by decide +kernel) rfl rfl (Nat.le_of_ble_eq_true rfl) ?_
  intro p e s m below meth c ls C hK hW hl
  exact k_X12_back_0 C hK hW hl hq
theorem k_X12_byteAt_0 {Q : Int32 → Prop} {x1 : Int32} {h : hp} (C : kC p s m args meth c cX12_byteAt 2 (some .int) RX12 wUX12_byteAt) (hK : kK G s) {H : Heap} {locs : List Loc} {ls : Array Slot} (hW : kW SM G h (aS SM G) s H locs) (hl : lv_has ls 2 [(0, .ref (G.2.2 0)), (1, .int x1)]) (hq : w_X12_byteAt_0 Q x1 h) : W p l e rmX12_byteAt s m args below meth c H locs 0 0 (MQ below (va_Qi (fun r9 h9 => h9 = h ∧ Q r9) (kB SM G) (aS SM G)) args s 0 0 (aS SM G)) (F0 m 0 ls []) := by
  have hx := C.1
  have hb := C.2.1
  unfold w_X12_byteAt_0 at hq
  refine lv_iload_n hx hb dX12_byteAt_0 rfl (lv_at hl 1 rfl) ?_
  refine lv_aload_n hx hb dX12_byteAt_1 rfl (lv_at hl 0 rfl) ?_
  refine gt12_4 C hK hW (rfl : shM 0 = 12) (List.mem_cons_of_mem _ mw605) (fun _ h9 => List.mem_cons_of_mem _ (inU_wsX120 _ h9)) dX12_byteAt_2 ?_
  refine lv_icmp_ge (tgt := 21) hx hb dX12_byteAt_5 (by decide) (fun c1 => ?_) (fun c1 => ?_)
  · have hq := hq.1 c1
    refine lv_iconst (v := 0) hx hb dX12_byteAt_21 (by decide) ?_
    exact k_iret rfl C hW dX12_byteAt_22 ⟨rfl, hq⟩
  · have hq := hq.2 c1
    refine lv_aload_n hx hb dX12_byteAt_8 rfl (lv_at hl 0 rfl) ?_
    refine gt12_3 C hK hW (rfl : shM 0 = 12) (List.mem_cons_of_mem _ mw264) (fun _ h9 => List.mem_cons_of_mem _ (inU_wsX120 _ h9)) dX12_byteAt_9 ?_
    refine lv_iload_n hx hb dX12_byteAt_12 rfl (lv_at hl 1 rfl) ?_
    refine k_bald C hK hW (shM_lt (rfl : shM 2 = 13) (by decide)) (ceM_13 (rfl : shM 2 = 13) (rfl : lnM 2 = 2000)) hq.1 dX12_byteAt_13 ?_
    have hq := hq.2
    refine lv_sipush (v := 255) hx hb dX12_byteAt_14 (by decide) ?_
    refine lv_iand hx hb dX12_byteAt_17 ?_
    refine lv_goto (tgt := 22) hx hb dX12_byteAt_18 (by decide) ?_
    exact k_iret rfl C hW dX12_byteAt_22 ⟨rfl, hq⟩
theorem c_X12_byteAt (l : Launch) (G : wG) (h : hp) (x1 : Int32) (Q : Int32 → Prop) (hq : w_X12_byteAt h x1 Q) : ctI l SM G yX12_byteAt wUX12_byteAt rmX12_byteAt h [.ref (G.2.2 0), .int x1] (fun r9 h9 => h9 = h ∧ Q r9) := by
  refine k_start (cc := cX12_byteAt) (maxL := 2) (rt := (some .int)) (own := RX12) (by decide +kernel) rfl rfl (Nat.le_of_ble_eq_true rfl) ?_
  intro p e s m below meth c ls C hK hW hl
  exact k_X12_byteAt_0 C hK hW hl hq
theorem k_X12_isDigit_0 {Q : Int32 → Prop} {x0 : Int32} {h : hp} (C : kC p s m args meth c cX12_isDigit 1 (some .boolean) RX12 wUX12_isDigit) (hK : kK G s) {H : Heap} {locs : List Loc} {ls : Array Slot} (hW : kW SM G h (aS SM G) s H locs) (hl : lv_has ls 1 [(0, .int x0)]) (hq : w_X12_isDigit_0 Q x0) : W p l e rmX12_isDigit s m args below meth c H locs 0 0 (MQ below (va_Qi (fun r9 h9 => h9 = h ∧ Q r9) (kB SM G) (aS SM G)) args s 0 0 (aS SM G)) (F0 m 0 ls []) := by
  have hx := C.1
  have hb := C.2.1
  unfold w_X12_isDigit_0 at hq
  refine lv_iload_n hx hb dX12_isDigit_0 rfl (lv_at hl 0 rfl) ?_
  refine lv_bipush (v := 48) hx hb dX12_isDigit_1 (by decide) ?_
  refine lv_icmp_lt (tgt := 16) hx hb dX12_isDigit_3 (by decide) (fun c1 => ?_) (fun c1 => ?_)
  · have hq := hq.1 c1
    refine lv_iconst (v := 0) hx hb dX12_isDigit_16 (by decide) ?_
    exact k_zret rfl isZ_0.1 C hW dX12_isDigit_17 ⟨rfl, hq⟩
  · have hq := hq.2 c1
    refine lv_iload_n hx hb dX12_isDigit_6 rfl (lv_at hl 0 rfl) ?_
    refine lv_bipush (v := 57) hx hb dX12_isDigit_7 (by decide) ?_
    refine lv_icmp_gt (tgt := 16) hx hb dX12_isDigit_9 (by decide) (fun c2 => ?_) (fun c2 => ?_)
    · have hq := hq.1 c2
      refine lv_iconst (v := 0) hx hb dX12_isDigit_16 (by decide) ?_
      exact k_zret rfl isZ_0.1 C hW dX12_isDigit_17 ⟨rfl, hq⟩
    · have hq := hq.2 c2
      refine lv_iconst (v := 1) hx hb dX12_isDigit_12 (by decide) ?_
      refine lv_goto (tgt := 17) hx hb dX12_isDigit_13 (by decide) ?_
      exact k_zret rfl isZ_1.1 C hW dX12_isDigit_17 ⟨rfl, hq⟩
theorem c_X12_isDigit (l : Launch) (G : wG) (h : hp) (x0 : Int32) (Q : Int32 → Prop) (hq : w_X12_isDigit x0 Q) : ctI l SM G yX12_isDigit wUX12_isDigit rmX12_isDigit h [.int x0] (fun r9 h9 => h9 = h ∧ Q r9) := by
  refine k_start (cc := cX12_isDigit) (maxL := 1) (rt := (some .boolean)) (own := RX12) (by decide +kernel) rfl rfl (Nat.le_of_ble_eq_true rfl) ?_
  intro p e s m below meth c ls C hK hW hl
  exact k_X12_isDigit_0 C hK hW hl hq
theorem k_X12_isLetter_0 {Q : Int32 → Prop} {x0 : Int32} {h : hp} (C : kC p s m args meth c cX12_isLetter 1 (some .boolean) RX12 wUX12_isLetter) (hK : kK G s) {H : Heap} {locs : List Loc} {ls : Array Slot} (hW : kW SM G h (aS SM G) s H locs) (hl : lv_has ls 1 [(0, .int x0)]) (hq : w_X12_isLetter_0 Q x0) : W p l e rmX12_isLetter s m args below meth c H locs 0 0 (MQ below (va_Qi (fun r9 h9 => h9 = h ∧ Q r9) (kB SM G) (aS SM G)) args s 0 0 (aS SM G)) (F0 m 0 ls []) := by
  have hx := C.1
  have hb := C.2.1
  unfold w_X12_isLetter_0 at hq
  refine lv_iload_n hx hb dX12_isLetter_0 rfl (lv_at hl 0 rfl) ?_
  refine lv_bipush (v := 97) hx hb dX12_isLetter_1 (by decide) ?_
  refine lv_icmp_lt (tgt := 16) hx hb dX12_isLetter_3 (by decide) (fun c1 => ?_) (fun c1 => ?_)
  · have hq := hq.1 c1
    refine lv_iconst (v := 0) hx hb dX12_isLetter_16 (by decide) ?_
    exact k_zret rfl isZ_0.1 C hW dX12_isLetter_17 ⟨rfl, hq⟩
  · have hq := hq.2 c1
    refine lv_iload_n hx hb dX12_isLetter_6 rfl (lv_at hl 0 rfl) ?_
    refine lv_bipush (v := 122) hx hb dX12_isLetter_7 (by decide) ?_
    refine lv_icmp_gt (tgt := 16) hx hb dX12_isLetter_9 (by decide) (fun c2 => ?_) (fun c2 => ?_)
    · have hq := hq.1 c2
      refine lv_iconst (v := 0) hx hb dX12_isLetter_16 (by decide) ?_
      exact k_zret rfl isZ_0.1 C hW dX12_isLetter_17 ⟨rfl, hq⟩
    · have hq := hq.2 c2
      refine lv_iconst (v := 1) hx hb dX12_isLetter_12 (by decide) ?_
      refine lv_goto (tgt := 17) hx hb dX12_isLetter_13 (by decide) ?_
      exact k_zret rfl isZ_1.1 C hW dX12_isLetter_17 ⟨rfl, hq⟩
theorem c_X12_isLetter (l : Launch) (G : wG) (h : hp) (x0 : Int32) (Q : Int32 → Prop) (hq : w_X12_isLetter x0 Q) : ctI l SM G yX12_isLetter wUX12_isLetter rmX12_isLetter h [.int x0] (fun r9 h9 => h9 = h ∧ Q r9) := by
  refine k_start (cc := cX12_isLetter) (maxL := 1) (rt := (some .boolean)) (own := RX12) (by decide +kernel) rfl rfl (Nat.le_of_ble_eq_true rfl) ?_
  intro p e s m below meth c ls C hK hW hl
  exact k_X12_isLetter_0 C hK hW hl hq
theorem k_X12_appends_0 {Q : Int64 → Prop} {x0 : Int64} {x2 : Int32} {h : hp} (C : kC p s m args meth c cX12_appends 3 (some .long) RX12 wUX12_appends) (hK : kK G s) {H : Heap} {locs : List Loc} {ls : Array Slot} (hW : kW SM G h (aS SM G) s H locs) (hl : lv_has ls 3 [(0, .long x0), (2, .int x2)]) (hq : w_X12_appends_0 Q x0 x2) : W p l e rmX12_appends s m args below meth c H locs 0 0 (MQ below (va_Ql (fun r9 h9 => h9 = h ∧ Q r9) (kB SM G) (aS SM G)) args s 0 0 (aS SM G)) (F0 m 0 ls []) := by
  have hx := C.1
  have hb := C.2.1
  unfold w_X12_appends_0 at hq
  refine lv_iload_n hx hb dX12_appends_0 rfl (lv_at hl 1 rfl) ?_
  refine lv_if_ne (tgt := 8) hx hb dX12_appends_1 (by decide) (fun c1 => ?_) (fun c1 => ?_)
  · have hq := hq.1 c1
    refine lv_ldc2 (v := 27) hx hb C.2.2.2.2.1 (C.2.2.2.2.2.1 _ (List.mem_cons_of_mem _ mw325)) dX12_appends_8 ?_
    refine lv_lload_n hx hb dX12_appends_11 rfl (lv_at hl 0 rfl) ?_
    refine lv_lmul hx hb dX12_appends_12 ?_
    refine lv_iload_n hx hb dX12_appends_13 rfl (lv_at hl 1 rfl) ?_
    refine lv_bipush (v := 97) hx hb dX12_appends_14 (by decide) ?_
    refine lv_isub hx hb dX12_appends_16 ?_
    refine lv_iconst (v := 1) hx hb dX12_appends_17 (by decide) ?_
    refine lv_iadd hx hb dX12_appends_18 ?_
    refine lv_i2l (v := ((x2 - 97) + 1).toInt64) hx hb dX12_appends_19 rfl ?_
    refine lv_ladd hx hb dX12_appends_20 ?_
    exact k_lret rfl C hW dX12_appends_21 ⟨rfl, hq⟩
  · have hq := hq.2 c1
    refine lv_lload_n hx hb dX12_appends_4 rfl (lv_at hl 0 rfl) ?_
    refine lv_goto (tgt := 21) hx hb dX12_appends_5 (by decide) ?_
    exact k_lret rfl C hW dX12_appends_21 ⟨rfl, hq⟩
theorem c_X12_appends (l : Launch) (G : wG) (h : hp) (x0 : Int64) (x2 : Int32) (Q : Int64 → Prop) (hq : w_X12_appends x0 x2 Q) : ctL l SM G yX12_appends wUX12_appends rmX12_appends h [.long x0, .int x2] (fun r9 h9 => h9 = h ∧ Q r9) := by
  refine k_start (cc := cX12_appends) (maxL := 3) (rt := (some .long)) (own := RX12) (by decide +kernel) rfl rfl (Nat.le_of_ble_eq_true rfl) ?_
  intro p e s m below meth c ls C hK hW hl
  exact k_X12_appends_0 C hK hW hl hq
theorem k_X12_word_0 {Q : Int64 → Prop} {x0 : Int32} {x1 : Int32} {x2 : Int32} {x3 : Int32} {x4 : Int32} {x5 : Int32} {x6 : Int32} {h : hp} (C : kC p s m args meth c cX12_word 7 (some .long) RX12 wUX12_word) (hK : kK G s) {H : Heap} {locs : List Loc} {ls : Array Slot} (hW : kW SM G h (aS SM G) s H locs) (hl : lv_has ls 7 [(0, .int x0), (1, .int x1), (2, .int x2), (3, .int x3), (4, .int x4), (5, .int x5), (6, .int x6)]) (hq : w_X12_word_0 Q x0 x1 x2 x3 x4 x5 x6) : W p l e rmX12_word s m args below meth c H locs 0 0 (MQ below (va_Ql (fun r9 h9 => h9 = h ∧ Q r9) (kB SM G) (aS SM G)) args s 0 0 (aS SM G)) (F0 m 0 ls []) := by
  have hx := C.1
  have hb := C.2.1
  unfold w_X12_word_0 at hq
  refine lv_lconst (v := 0) hx hb dX12_word_0 (by decide) ?_
  refine lv_iload_n hx hb dX12_word_1 rfl (lv_at hl 0 rfl) ?_
  refine k_cl hW (va_runS (As := [.long 0, .int x0]) (rest := []) (k_fix C) (c_X12_appends l G h 0 x0 _ hq) (va_cwS 2 C.2.2.2.2.2.1 (gU_S mw322 mw323 mw5 mw324) rfl rfl rfl (by decide +kernel) ⟨Nat.le_of_ble_eq_true rfl, Nat.le_of_ble_eq_true rfl⟩) (k_preS hK hW) rfl rfl hl.1 rfl (lv_room (Nat.le_of_ble_eq_true rfl)) dX12_word_2 ⟨Nat.le_refl 0, Nat.le_refl 0⟩) (fun r1 h2 H locs hq hW => ?_)
  rw [hq.1] at hW
  have hq := hq.2
  refine lv_iload_n hx hb dX12_word_5 rfl (lv_at hl 1 rfl) ?_
  refine k_cl hW (va_runS (As := [.long r1, .int x1]) (rest := []) (k_fix C) (c_X12_appends l G h r1 x1 _ hq) (va_cwS 2 C.2.2.2.2.2.1 (gU_S mw322 mw323 mw5 mw324) rfl rfl rfl (by decide +kernel) ⟨Nat.le_of_ble_eq_true rfl, Nat.le_of_ble_eq_true rfl⟩) (k_preS hK hW) rfl rfl hl.1 rfl (lv_room (Nat.le_of_ble_eq_true rfl)) dX12_word_6 ⟨Nat.le_refl 0, Nat.le_refl 0⟩) (fun r3 h4 H locs hq hW => ?_)
  rw [hq.1] at hW
  have hq := hq.2
  refine lv_iload_n hx hb dX12_word_9 rfl (lv_at hl 2 rfl) ?_
  refine k_cl hW (va_runS (As := [.long r3, .int x2]) (rest := []) (k_fix C) (c_X12_appends l G h r3 x2 _ hq) (va_cwS 2 C.2.2.2.2.2.1 (gU_S mw322 mw323 mw5 mw324) rfl rfl rfl (by decide +kernel) ⟨Nat.le_of_ble_eq_true rfl, Nat.le_of_ble_eq_true rfl⟩) (k_preS hK hW) rfl rfl hl.1 rfl (lv_room (Nat.le_of_ble_eq_true rfl)) dX12_word_10 ⟨Nat.le_refl 0, Nat.le_refl 0⟩) (fun r5 h6 H locs hq hW => ?_)
  rw [hq.1] at hW
  have hq := hq.2
  refine lv_iload_n hx hb dX12_word_13 rfl (lv_at hl 3 rfl) ?_
  refine k_cl hW (va_runS (As := [.long r5, .int x3]) (rest := []) (k_fix C) (c_X12_appends l G h r5 x3 _ hq) (va_cwS 2 C.2.2.2.2.2.1 (gU_S mw322 mw323 mw5 mw324) rfl rfl rfl (by decide +kernel) ⟨Nat.le_of_ble_eq_true rfl, Nat.le_of_ble_eq_true rfl⟩) (k_preS hK hW) rfl rfl hl.1 rfl (lv_room (Nat.le_of_ble_eq_true rfl)) dX12_word_14 ⟨Nat.le_refl 0, Nat.le_refl 0⟩) (fun r7 h8 H locs hq hW => ?_)
  rw [hq.1] at hW
  have hq := hq.2
  refine lv_iload hx hb dX12_word_17 (lv_at hl 4 rfl) ?_
  refine k_cl hW (va_runS (As := [.long r7, .int x4]) (rest := []) (k_fix C) (c_X12_appends l G h r7 x4 _ hq) (va_cwS 2 C.2.2.2.2.2.1 (gU_S mw322 mw323 mw5 mw324) rfl rfl rfl (by decide +kernel) ⟨Nat.le_of_ble_eq_true rfl, Nat.le_of_ble_eq_true rfl⟩) (k_preS hK hW) rfl rfl hl.1 rfl (lv_room (Nat.le_of_ble_eq_true rfl)) dX12_word_19 ⟨Nat.le_refl 0, Nat.le_refl 0⟩) (fun r9 h10 H locs hq hW => ?_)
  rw [hq.1] at hW
  have hq := hq.2
  refine lv_iload hx hb dX12_word_22 (lv_at hl 5 rfl) ?_
  refine k_cl hW (va_runS (As := [.long r9, .int x5]) (rest := []) (k_fix C) (c_X12_appends l G h r9 x5 _ hq) (va_cwS 2 C.2.2.2.2.2.1 (gU_S mw322 mw323 mw5 mw324) rfl rfl rfl (by decide +kernel) ⟨Nat.le_of_ble_eq_true rfl, Nat.le_of_ble_eq_true rfl⟩) (k_preS hK hW) rfl rfl hl.1 rfl (lv_room (Nat.le_of_ble_eq_true rfl)) dX12_word_24 ⟨Nat.le_refl 0, Nat.le_refl 0⟩) (fun r11 h12 H locs hq hW => ?_)
  rw [hq.1] at hW
  have hq := hq.2
  refine lv_iload hx hb dX12_word_27 (lv_at hl 6 rfl) ?_
  refine k_cl hW (va_runS (As := [.long r11, .int x6]) (rest := []) (k_fix C) (c_X12_appends l G h r11 x6 _ hq) (va_cwS 2 C.2.2.2.2.2.1 (gU_S mw322 mw323 mw5 mw324) rfl rfl rfl (by decide +kernel) ⟨Nat.le_of_ble_eq_true rfl, Nat.le_of_ble_eq_true rfl⟩) (k_preS hK hW) rfl rfl hl.1 rfl (lv_room (Nat.le_of_ble_eq_true rfl)) dX12_word_29 ⟨Nat.le_refl 0, Nat.le_refl 0⟩) (fun r13 h14 H locs hq hW => ?_)
  rw [hq.1] at hW
  have hq := hq.2
  exact k_lret rfl C hW dX12_word_32 ⟨rfl, hq⟩
theorem c_X12_word (l : Launch) (G : wG) (h : hp) (x0 : Int32) (x1 : Int32) (x2 : Int32) (x3 : Int32) (x4 : Int32) (x5 : Int32) (x6 : Int32) (Q : Int64 → Prop) (hq : w_X12_word x0 x1 x2 x3 x4 x5 x6 Q) : ctL l SM G yX12_word wUX12_word rmX12_word h [.int x0, .int x1, .int x2, .int x3, .int x4, .int x5, .int x6] (fun r9 h9 => h9 = h ∧ Q r9) := by
  refine k_start (cc := cX12_word) (maxL := 7) (rt := (some .long)) (own := RX12) (by decide +kernel) rfl rfl (Nat.le_of_ble_eq_true rfl) ?_
  intro p e s m below meth c ls C hK hW hl
  exact k_X12_word_0 C hK hW hl hq
theorem k_X12_token_0 {Q : hp → Prop} {x1 : Int32} {x2 : Int32} {x3 : Int32} {x4 : Int64} {h : hp} (C : kC p s m args meth c cX12_token 6 none RX12 wUX12_token) (hK : kK G s) {H : Heap} {locs : List Loc} {ls : Array Slot} (hW : kW SM G h (aS SM G) s H locs) (hl : lv_has ls 6 [(0, .ref (G.2.2 0)), (1, .int x1), (2, .int x2), (3, .int x3), (4, .long x4)]) (hq : w_X12_token_0 Q x1 x2 x3 x4 h) : W p l e rmX12_token s m args below meth c H locs 0 0 (MQ below (va_Qv Q (kB SM G) (aS SM G)) args s 0 0 (aS SM G)) (F0 m 0 ls []) := by
  have hx := C.1
  have hb := C.2.1
  unfold w_X12_token_0 at hq
  refine lv_aload_n hx hb dX12_token_0 rfl (lv_at hl 0 rfl) ?_
  refine gt12_5 C hK hW (rfl : shM 0 = 12) (List.mem_cons_of_mem _ mw265) (fun _ h9 => List.mem_cons_of_mem _ (inU_wsX120 _ h9)) dX12_token_1 ?_
  refine lv_aload_n hx hb dX12_token_4 rfl (lv_at hl 0 rfl) ?_
  refine gt12_10 C hK hW (rfl : shM 0 = 12) (List.mem_cons_of_mem _ mw623) (fun _ h9 => List.mem_cons_of_mem _ (inU_wsX120 _ h9)) dX12_token_5 ?_
  refine lv_iload_n hx hb dX12_token_8 rfl (lv_at hl 1 rfl) ?_
  refine k_iast okM C hK hW (shM_lt (rfl : shM 3 = 14) (by decide)) (fun g9 => ceM_14 (rfl : shM 3 = 14) (rfl : lnM 3 = 403)) hq.1 dX12_token_9 (fun H locs hW => ?_)
  have hq := hq.2
  obtain ⟨h1, eh1⟩ : ∃ z : hp, z = sI h 3 (ix (gI h 0 10)) x1 := ⟨_, rfl⟩
  rw [← eh1] at hW
  have hq := hq h1 eh1
  refine lv_aload_n hx hb dX12_token_10 rfl (lv_at hl 0 rfl) ?_
  refine gt12_6 C hK hW (rfl : shM 0 = 12) (List.mem_cons_of_mem _ mw266) (fun _ h9 => List.mem_cons_of_mem _ (inU_wsX120 _ h9)) dX12_token_11 ?_
  refine lv_aload_n hx hb dX12_token_14 rfl (lv_at hl 0 rfl) ?_
  refine gt12_10 C hK hW (rfl : shM 0 = 12) (List.mem_cons_of_mem _ mw623) (fun _ h9 => List.mem_cons_of_mem _ (inU_wsX120 _ h9)) dX12_token_15 ?_
  refine lv_iload_n hx hb dX12_token_18 rfl (lv_at hl 2 rfl) ?_
  refine k_iast okM C hK hW (shM_lt (rfl : shM 4 = 14) (by decide)) (fun g9 => ceM_14 (rfl : shM 4 = 14) (rfl : lnM 4 = 403)) hq.1 dX12_token_19 (fun H locs hW => ?_)
  have hq := hq.2
  obtain ⟨h2, eh2⟩ : ∃ z : hp, z = sI h1 4 (ix (gI h1 0 10)) x2 := ⟨_, rfl⟩
  rw [← eh2] at hW
  have hq := hq h2 eh2
  refine lv_aload_n hx hb dX12_token_20 rfl (lv_at hl 0 rfl) ?_
  refine gt12_7 C hK hW (rfl : shM 0 = 12) (List.mem_cons_of_mem _ mw267) (fun _ h9 => List.mem_cons_of_mem _ (inU_wsX120 _ h9)) dX12_token_21 ?_
  refine lv_aload_n hx hb dX12_token_24 rfl (lv_at hl 0 rfl) ?_
  refine gt12_10 C hK hW (rfl : shM 0 = 12) (List.mem_cons_of_mem _ mw623) (fun _ h9 => List.mem_cons_of_mem _ (inU_wsX120 _ h9)) dX12_token_25 ?_
  refine lv_iload_n hx hb dX12_token_28 rfl (lv_at hl 3 rfl) ?_
  refine k_iast okM C hK hW (shM_lt (rfl : shM 5 = 14) (by decide)) (fun g9 => ceM_14 (rfl : shM 5 = 14) (rfl : lnM 5 = 403)) hq.1 dX12_token_29 (fun H locs hW => ?_)
  have hq := hq.2
  obtain ⟨h3, eh3⟩ : ∃ z : hp, z = sI h2 5 (ix (gI h2 0 10)) x3 := ⟨_, rfl⟩
  rw [← eh3] at hW
  have hq := hq h3 eh3
  refine lv_aload_n hx hb dX12_token_30 rfl (lv_at hl 0 rfl) ?_
  refine gt12_8 C hK hW (rfl : shM 0 = 12) (List.mem_cons_of_mem _ mw268) (fun _ h9 => List.mem_cons_of_mem _ (inU_wsX120 _ h9)) dX12_token_31 ?_
  refine lv_aload_n hx hb dX12_token_34 rfl (lv_at hl 0 rfl) ?_
  refine gt12_10 C hK hW (rfl : shM 0 = 12) (List.mem_cons_of_mem _ mw623) (fun _ h9 => List.mem_cons_of_mem _ (inU_wsX120 _ h9)) dX12_token_35 ?_
  refine lv_lload hx hb dX12_token_38 (lv_at hl 4 rfl) ?_
  refine k_last okM C hK hW (shM_lt (rfl : shM 6 = 15) (by decide)) (fun g9 => ceM_15 (rfl : shM 6 = 15) (rfl : lnM 6 = 403)) hq.1 dX12_token_40 (fun H locs hW => ?_)
  have hq := hq.2
  obtain ⟨h4, eh4⟩ : ∃ z : hp, z = sL h3 6 (ix (gI h3 0 10)) x4 := ⟨_, rfl⟩
  rw [← eh4] at hW
  have hq := hq h4 eh4
  refine lv_aload_n hx hb dX12_token_41 rfl (lv_at hl 0 rfl) ?_
  refine lv_dup hx hb dX12_token_42 rfl ?_
  refine gt12_10 C hK hW (rfl : shM 0 = 12) (List.mem_cons_of_mem _ mw623) (fun _ h9 => List.mem_cons_of_mem _ (inU_wsX120 _ h9)) dX12_token_43 ?_
  refine lv_iconst (v := 1) hx hb dX12_token_46 (by decide) ?_
  refine lv_iadd hx hb dX12_token_47 ?_
  refine pt12_10 C hK hW (rfl : shM 0 = 12) (List.mem_cons_of_mem _ mw623) (fun _ h9 => List.mem_cons_of_mem _ (inU_wsX120 _ h9)) dX12_token_48 (fun h5 H locs eh5 hW => ?_)
  have hq := hq h5 eh5
  exact k_vret rfl C hW dX12_token_51 hq
theorem c_X12_token (l : Launch) (G : wG) (h : hp) (x1 : Int32) (x2 : Int32) (x3 : Int32) (x4 : Int64) (Q : hp → Prop) (hq : w_X12_token h x1 x2 x3 x4 Q) : ctV l SM G yX12_token wUX12_token rmX12_token h [.ref (G.2.2 0), .int x1, .int x2, .int x3, .long x4] Q := by
  refine k_start (cc := cX12_token) (maxL := 6) (rt := none) (own := RX12) (by decide +kernel) rfl rfl (Nat.le_of_ble_eq_true rfl) ?_
  intro p e s m below meth c ls C hK hW hl
  exact k_X12_token_0 C hK hW hl hq
theorem k_X12_sign_95 {Q : Int32 → hp → Prop} {x1 : Int32} {x4 : Int32} {h : hp} (C : kC p s m args meth c cX12_sign 5 (some .int) RX12 wUX12_sign) (hK : kK G s) {H : Heap} {locs : List Loc} {ls : Array Slot} (hW : kW SM G h (aS SM G) s H locs) (hl : lv_has ls 5 [(0, .ref (G.2.2 0)), (1, .int x1), (4, .int x4)]) (hq : w_X12_sign_95 Q x1 x4 h) : W p l e rmX12_sign s m args below meth c H locs 0 0 (MQ below (va_Qi Q (kB SM G) (aS SM G)) args s 0 0 (aS SM G)) (F0 m 95 ls []) := by
  have hx := C.1
  have hb := C.2.1
  unfold w_X12_sign_95 at hq
  refine lv_aload_n hx hb dX12_sign_95 rfl (lv_at hl 0 rfl) ?_
  refine lv_iload hx hb dX12_sign_96 (lv_at hl 2 rfl) ?_
  refine lv_iload_n hx hb dX12_sign_98 rfl (lv_at hl 1 rfl) ?_
  refine lv_iconst (v := 0) hx hb dX12_sign_99 (by decide) ?_
  refine lv_lconst (v := 0) hx hb dX12_sign_100 (by decide) ?_
  refine k_cv hW (va_runV (As := [.int x4, .int x1, .int 0, .long 0]) (rest := []) (k_fix C) (c_X12_token l G h x4 x1 0 0 _ hq) (cwV 4 C.2.2.2.2.2.1 (gU_V mw628 mw629 mw630 mw5 mw631) rfl rfl rfl (by decide +kernel) ⟨Nat.le_of_ble_eq_true rfl, Nat.le_of_ble_eq_true rfl⟩) (k_preV hK hW (shM_lt (rfl : shM 0 = 12) (by decide)) (ceM_12 (rfl : shM 0 = 12)) (q := (RX12, TX12, 73)) rfl) rfl rfl hl.1 rfl (lv_room (Nat.le_of_ble_eq_true rfl)) dX12_sign_101 ⟨Nat.le_refl 0, Nat.le_refl 0⟩) (fun h10 H locs hq hW => ?_)
  refine lv_iconst (v := 1) hx hb dX12_sign_104 (by decide) ?_
  exact k_iret rfl C hW dX12_sign_105 hq
theorem k_X12_sign_85 {Q : Int32 → hp → Prop} {x1 : Int32} {x2 : Int32} {x4 : Int32} {h : hp} (C : kC p s m args meth c cX12_sign 5 (some .int) RX12 wUX12_sign) (hK : kK G s) {H : Heap} {locs : List Loc} {ls : Array Slot} (hW : kW SM G h (aS SM G) s H locs) (hl : lv_has ls 5 [(0, .ref (G.2.2 0)), (1, .int x1), (2, .int x2), (4, .int x4)]) (hq : w_X12_sign_85 Q x1 x2 x4 h) : W p l e rmX12_sign s m args below meth c H locs 0 0 (MQ below (va_Qi Q (kB SM G) (aS SM G)) args s 0 0 (aS SM G)) (F0 m 85 ls []) := by
  have hx := C.1
  have hb := C.2.1
  unfold w_X12_sign_85 at hq
  refine lv_iload_n hx hb dX12_sign_85 rfl (lv_at hl 2 rfl) ?_
  refine lv_bipush (v := 60) hx hb dX12_sign_86 (by decide) ?_
  refine lv_icmp_ne (tgt := 95) hx hb dX12_sign_88 (by decide) (fun c9 => ?_) (fun c9 => ?_)
  · have hq := hq.1 c9
    exact k_X12_sign_95 C hK hW (lv_sub hl [0, 1, 3] rfl) hq
  · have hq := hq.2 c9
    refine lv_bipush (v := 13) hx hb dX12_sign_91 (by decide) ?_
    refine lv_istore (lv' := [(4, .int 13), (0, .ref (G.2.2 0)), (1, .int x1), (2, .int x2)]) hx hb dX12_sign_93 hl (by decide) rfl (fun ls hl => ?_)
    exact k_X12_sign_95 C hK hW (lv_sub hl [1, 2, 0] rfl) hq
theorem k_X12_sign_75 {Q : Int32 → hp → Prop} {x1 : Int32} {x2 : Int32} {x4 : Int32} {h : hp} (C : kC p s m args meth c cX12_sign 5 (some .int) RX12 wUX12_sign) (hK : kK G s) {H : Heap} {locs : List Loc} {ls : Array Slot} (hW : kW SM G h (aS SM G) s H locs) (hl : lv_has ls 5 [(0, .ref (G.2.2 0)), (1, .int x1), (2, .int x2), (4, .int x4)]) (hq : w_X12_sign_75 Q x1 x2 x4 h) : W p l e rmX12_sign s m args below meth c H locs 0 0 (MQ below (va_Qi Q (kB SM G) (aS SM G)) args s 0 0 (aS SM G)) (F0 m 75 ls []) := by
  have hx := C.1
  have hb := C.2.1
  unfold w_X12_sign_75 at hq
  refine lv_iload_n hx hb dX12_sign_75 rfl (lv_at hl 2 rfl) ?_
  refine lv_bipush (v := 47) hx hb dX12_sign_76 (by decide) ?_
  refine lv_icmp_ne (tgt := 85) hx hb dX12_sign_78 (by decide) (fun c8 => ?_) (fun c8 => ?_)
  · have hq := hq.1 c8
    exact k_X12_sign_85 C hK hW (lv_sub hl [0, 1, 2, 3] rfl) hq
  · have hq := hq.2 c8
    refine lv_bipush (v := 15) hx hb dX12_sign_81 (by decide) ?_
    refine lv_istore (lv' := [(4, .int 15), (0, .ref (G.2.2 0)), (1, .int x1), (2, .int x2)]) hx hb dX12_sign_83 hl (by decide) rfl (fun ls hl => ?_)
    exact k_X12_sign_85 C hK hW (lv_sub hl [1, 2, 3, 0] rfl) hq
theorem k_X12_sign_65 {Q : Int32 → hp → Prop} {x1 : Int32} {x2 : Int32} {x4 : Int32} {h : hp} (C : kC p s m args meth c cX12_sign 5 (some .int) RX12 wUX12_sign) (hK : kK G s) {H : Heap} {locs : List Loc} {ls : Array Slot} (hW : kW SM G h (aS SM G) s H locs) (hl : lv_has ls 5 [(0, .ref (G.2.2 0)), (1, .int x1), (2, .int x2), (4, .int x4)]) (hq : w_X12_sign_65 Q x1 x2 x4 h) : W p l e rmX12_sign s m args below meth c H locs 0 0 (MQ below (va_Qi Q (kB SM G) (aS SM G)) args s 0 0 (aS SM G)) (F0 m 65 ls []) := by
  have hx := C.1
  have hb := C.2.1
  unfold w_X12_sign_65 at hq
  refine lv_iload_n hx hb dX12_sign_65 rfl (lv_at hl 2 rfl) ?_
  refine lv_bipush (v := 42) hx hb dX12_sign_66 (by decide) ?_
  refine lv_icmp_ne (tgt := 75) hx hb dX12_sign_68 (by decide) (fun c7 => ?_) (fun c7 => ?_)
  · have hq := hq.1 c7
    exact k_X12_sign_75 C hK hW (lv_sub hl [0, 1, 2, 3] rfl) hq
  · have hq := hq.2 c7
    refine lv_bipush (v := 10) hx hb dX12_sign_71 (by decide) ?_
    refine lv_istore (lv' := [(4, .int 10), (0, .ref (G.2.2 0)), (1, .int x1), (2, .int x2)]) hx hb dX12_sign_73 hl (by decide) rfl (fun ls hl => ?_)
    exact k_X12_sign_75 C hK hW (lv_sub hl [1, 2, 3, 0] rfl) hq
theorem k_X12_sign_55 {Q : Int32 → hp → Prop} {x1 : Int32} {x2 : Int32} {x4 : Int32} {h : hp} (C : kC p s m args meth c cX12_sign 5 (some .int) RX12 wUX12_sign) (hK : kK G s) {H : Heap} {locs : List Loc} {ls : Array Slot} (hW : kW SM G h (aS SM G) s H locs) (hl : lv_has ls 5 [(0, .ref (G.2.2 0)), (1, .int x1), (2, .int x2), (4, .int x4)]) (hq : w_X12_sign_55 Q x1 x2 x4 h) : W p l e rmX12_sign s m args below meth c H locs 0 0 (MQ below (va_Qi Q (kB SM G) (aS SM G)) args s 0 0 (aS SM G)) (F0 m 55 ls []) := by
  have hx := C.1
  have hb := C.2.1
  unfold w_X12_sign_55 at hq
  refine lv_iload_n hx hb dX12_sign_55 rfl (lv_at hl 2 rfl) ?_
  refine lv_bipush (v := 45) hx hb dX12_sign_56 (by decide) ?_
  refine lv_icmp_ne (tgt := 65) hx hb dX12_sign_58 (by decide) (fun c6 => ?_) (fun c6 => ?_)
  · have hq := hq.1 c6
    exact k_X12_sign_65 C hK hW (lv_sub hl [0, 1, 2, 3] rfl) hq
  · have hq := hq.2 c6
    refine lv_bipush (v := 9) hx hb dX12_sign_61 (by decide) ?_
    refine lv_istore (lv' := [(4, .int 9), (0, .ref (G.2.2 0)), (1, .int x1), (2, .int x2)]) hx hb dX12_sign_63 hl (by decide) rfl (fun ls hl => ?_)
    exact k_X12_sign_65 C hK hW (lv_sub hl [1, 2, 3, 0] rfl) hq
theorem k_X12_sign_43 {Q : Int32 → hp → Prop} {x1 : Int32} {x2 : Int32} {h : hp} {s0 : Int32} (C : kC p s m args meth c cX12_sign 5 (some .int) RX12 wUX12_sign) (hK : kK G s) {H : Heap} {locs : List Loc} {ls : Array Slot} (hW : kW SM G h (aS SM G) s H locs) (hl : lv_has ls 5 [(0, .ref (G.2.2 0)), (1, .int x1), (2, .int x2)]) (hq : w_X12_sign_43 Q x1 x2 h s0) : W p l e rmX12_sign s m args below meth c H locs 0 0 (MQ below (va_Qi Q (kB SM G) (aS SM G)) args s 0 0 (aS SM G)) (F0 m 43 ls [.int s0]) := by
  have hx := C.1
  have hb := C.2.1
  unfold w_X12_sign_43 at hq
  refine lv_istore (lv' := [(4, .int s0), (0, .ref (G.2.2 0)), (1, .int x1), (2, .int x2)]) hx hb dX12_sign_43 hl (by decide) rfl (fun ls hl => ?_)
  refine lv_iload_n hx hb dX12_sign_45 rfl (lv_at hl 3 rfl) ?_
  refine lv_bipush (v := 43) hx hb dX12_sign_46 (by decide) ?_
  refine lv_icmp_ne (tgt := 55) hx hb dX12_sign_48 (by decide) (fun c5 => ?_) (fun c5 => ?_)
  · have hq := hq.1 c5
    exact k_X12_sign_55 C hK hW (lv_sub hl [1, 2, 3, 0] rfl) hq
  · have hq := hq.2 c5
    refine lv_bipush (v := 8) hx hb dX12_sign_51 (by decide) ?_
    refine lv_istore (lv' := [(4, .int 8), (0, .ref (G.2.2 0)), (1, .int x1), (2, .int x2)]) hx hb dX12_sign_53 hl (by decide) rfl (fun ls hl => ?_)
    exact k_X12_sign_55 C hK hW (lv_sub hl [1, 2, 3, 0] rfl) hq
theorem k_X12_sign_0 {Q : Int32 → hp → Prop} {x1 : Int32} {x2 : Int32} {x3 : Int32} {h : hp} (C : kC p s m args meth c cX12_sign 5 (some .int) RX12 wUX12_sign) (hK : kK G s) {H : Heap} {locs : List Loc} {ls : Array Slot} (hW : kW SM G h (aS SM G) s H locs) (hl : lv_has ls 5 [(0, .ref (G.2.2 0)), (1, .int x1), (2, .int x2), (3, .int x3)]) (hq : w_X12_sign_0 Q x1 x2 x3 h) : W p l e rmX12_sign s m args below meth c H locs 0 0 (MQ below (va_Qi Q (kB SM G) (aS SM G)) args s 0 0 (aS SM G)) (F0 m 0 ls []) := by
  have hx := C.1
  have hb := C.2.1
  unfold w_X12_sign_0 at hq
  refine lv_iload_n hx hb dX12_sign_0 rfl (lv_at hl 2 rfl) ?_
  refine lv_bipush (v := 59) hx hb dX12_sign_1 (by decide) ?_
  refine lv_icmp_ne (tgt := 10) hx hb dX12_sign_3 (by decide) (fun c1 => ?_) (fun c1 => ?_)
  · have hq := hq.1 c1
    refine lv_iload_n hx hb dX12_sign_10 rfl (lv_at hl 2 rfl) ?_
    refine lv_bipush (v := 61) hx hb dX12_sign_11 (by decide) ?_
    refine lv_icmp_ne (tgt := 20) hx hb dX12_sign_13 (by decide) (fun c2 => ?_) (fun c2 => ?_)
    · have hq := hq.1 c2
      refine lv_iload_n hx hb dX12_sign_20 rfl (lv_at hl 2 rfl) ?_
      refine lv_bipush (v := 40) hx hb dX12_sign_21 (by decide) ?_
      refine lv_icmp_ne (tgt := 31) hx hb dX12_sign_23 (by decide) (fun c3 => ?_) (fun c3 => ?_)
      · have hq := hq.1 c3
        refine lv_iload_n hx hb dX12_sign_31 rfl (lv_at hl 2 rfl) ?_
        refine lv_bipush (v := 41) hx hb dX12_sign_32 (by decide) ?_
        refine lv_icmp_ne (tgt := 42) hx hb dX12_sign_34 (by decide) (fun c4 => ?_) (fun c4 => ?_)
        · have hq := hq.1 c4
          refine lv_iconst (v := 3) hx hb dX12_sign_42 (by decide) ?_
          exact k_X12_sign_43 C hK hW (lv_sub hl [0, 1, 2] rfl) hq
        · have hq := hq.2 c4
          refine lv_bipush (v := 7) hx hb dX12_sign_37 (by decide) ?_
          refine lv_goto (tgt := 43) hx hb dX12_sign_39 (by decide) ?_
          exact k_X12_sign_43 C hK hW (lv_sub hl [0, 1, 2] rfl) hq
      · have hq := hq.2 c3
        refine lv_bipush (v := 6) hx hb dX12_sign_26 (by decide) ?_
        refine lv_goto (tgt := 43) hx hb dX12_sign_28 (by decide) ?_
        exact k_X12_sign_43 C hK hW (lv_sub hl [0, 1, 2] rfl) hq
    · have hq := hq.2 c2
      refine lv_iconst (v := 5) hx hb dX12_sign_16 (by decide) ?_
      refine lv_goto (tgt := 43) hx hb dX12_sign_17 (by decide) ?_
      exact k_X12_sign_43 C hK hW (lv_sub hl [0, 1, 2] rfl) hq
  · have hq := hq.2 c1
    refine lv_iconst (v := 4) hx hb dX12_sign_6 (by decide) ?_
    refine lv_goto (tgt := 43) hx hb dX12_sign_7 (by decide) ?_
    exact k_X12_sign_43 C hK hW (lv_sub hl [0, 1, 2] rfl) hq
theorem c_X12_sign (l : Launch) (G : wG) (h : hp) (x1 : Int32) (x2 : Int32) (x3 : Int32) (Q : Int32 → hp → Prop) (hq : w_X12_sign h x1 x2 x3 Q) : ctI l SM G yX12_sign wUX12_sign rmX12_sign h [.ref (G.2.2 0), .int x1, .int x2, .int x3] Q := by
  refine k_start (cc := cX12_sign) (maxL := 5) (rt := (some .int)) (own := RX12) (by decide +kernel) rfl rfl (Nat.le_of_ble_eq_true rfl) ?_
  intro p e s m below meth c ls C hK hW hl
  exact k_X12_sign_0 C hK hW hl hq
end LINKS
