section LINKS
variable {p : Program} {l : Launch} {e : Env} {s : State} {m : MethodId} {args : Array Value} {below : List Frame} {meth : Method} {c : Code} {G : wG}
theorem kT_X2_clear_0 {o : Nat} (ho : shT o = 2) {Q : hp → Prop} {h : hp} (C : kC p s m args meth c cX2_clear 1 none RX2 wUX2_clear) (hK : kK G s) {H : Heap} {locs : List Loc} {ls : Array Slot} (hW : kW ST G h (aS ST G) s H locs) (hl : lv_has ls 1 [(0, .ref (G.2.2 o))]) (hq : w_X2_clear_0 o Q h) : W p l e rmX2_clear s m args below meth c H locs 0 0 (MQ below (va_Qv Q (kB ST G) (aS ST G)) args s 0 0 (aS ST G)) (F0 m 0 ls []) := by
  have hx := C.1
  have hb := C.2.1
  unfold w_X2_clear_0 at hq
  refine lv_aload_n hx hb dX2_clear_0 rfl (lv_at hl 0 rfl) ?_
  refine lv_iconst (v := 0) hx hb dX2_clear_1 (by decide) ?_
  refine ptT2_2 C hK hW ho (List.mem_cons_of_mem _ mw87) (fun _ h9 => List.mem_cons_of_mem _ (inU_wsX20 _ h9)) dX2_clear_2 (fun h1 H locs eh1 hW => ?_)
  have hq := hq h1 eh1
  exact k_vret rfl C hW dX2_clear_5 hq
theorem cT_X2_clear (l : Launch) (G : wG) {o : Nat} (ho : shT o = 2) (h : hp) (Q : hp → Prop) (hq : w_X2_clear o h Q) : ctV l ST G yX2_clear wUX2_clear rmX2_clear h [.ref (G.2.2 o)] Q := by
  refine k_start (cc := cX2_clear) (maxL := 1) (rt := none) (own := RX2) (by decide +kernel) rfl rfl (Nat.le_of_ble_eq_true rfl) ?_
  intro p e s m below meth c ls C hK hW hl
  exact kT_X2_clear_0 ho C hK hW hl hq
theorem kT_X2_add_0 {o : Nat} (ho : shT o = 2) {Q : Int32 → hp → Prop} {x1 : Int32} {x2 : Int32} {h : hp} (C : kC p s m args meth c cX2_add 3 (some .int) RX2 wUX2_add) (hK : kK G s) {H : Heap} {locs : List Loc} {ls : Array Slot} (hW : kW ST G h (aS ST G) s H locs) (hl : lv_has ls 3 [(0, .ref (G.2.2 o)), (1, .int x1), (2, .int x2)]) (hq : w_X2_add_0 o Q x1 x2 h) : W p l e rmX2_add s m args below meth c H locs 0 0 (MQ below (va_Qi Q (kB ST G) (aS ST G)) args s 0 0 (aS ST G)) (F0 m 0 ls []) := by
  have hx := C.1
  have hb := C.2.1
  unfold w_X2_add_0 at hq
  refine lv_aload_n hx hb dX2_add_0 rfl (lv_at hl 0 rfl) ?_
  refine gtT2_2 C hK hW ho (List.mem_cons_of_mem _ mw87) (fun _ h9 => List.mem_cons_of_mem _ (inU_wsX20 _ h9)) dX2_add_1 ?_
  refine lv_sipush (v := 402) hx hb dX2_add_4 (by decide) ?_
  refine lv_icmp_lt (tgt := 14) hx hb dX2_add_7 (by decide) (fun c1 => ?_) (fun c1 => ?_)
  · have hq := hq.1 c1
    refine lv_aload_n hx hb dX2_add_14 rfl (lv_at hl 0 rfl) ?_
    refine gtT2_0 C hK hW ho (List.mem_cons_of_mem _ mw85) (fun _ h9 => List.mem_cons_of_mem _ (inU_wsX20 _ h9)) dX2_add_15 ?_
    refine lv_aload_n hx hb dX2_add_18 rfl (lv_at hl 0 rfl) ?_
    refine gtT2_2 C hK hW ho (List.mem_cons_of_mem _ mw87) (fun _ h9 => List.mem_cons_of_mem _ (inU_wsX20 _ h9)) dX2_add_19 ?_
    refine lv_iload_n hx hb dX2_add_22 rfl (lv_at hl 1 rfl) ?_
    refine k_iast okT C hK hW (shT_lt (slT2_0 ho).1 (by decide)) (fun g9 => ceT_14 (slT2_0 ho).1 (slT2_0 ho).2) hq.1 dX2_add_23 (fun H locs hW => ?_)
    have hq := hq.2
    obtain ⟨h2, eh2⟩ : ∃ z : hp, z = sI h (o + 1) (ix (gI h o 2)) x1 := ⟨_, rfl⟩
    rw [← eh2] at hW
    have hq := hq h2 eh2
    refine lv_aload_n hx hb dX2_add_24 rfl (lv_at hl 0 rfl) ?_
    refine gtT2_1 C hK hW ho (List.mem_cons_of_mem _ mw86) (fun _ h9 => List.mem_cons_of_mem _ (inU_wsX20 _ h9)) dX2_add_25 ?_
    refine lv_aload_n hx hb dX2_add_28 rfl (lv_at hl 0 rfl) ?_
    refine gtT2_2 C hK hW ho (List.mem_cons_of_mem _ mw87) (fun _ h9 => List.mem_cons_of_mem _ (inU_wsX20 _ h9)) dX2_add_29 ?_
    refine lv_iload_n hx hb dX2_add_32 rfl (lv_at hl 2 rfl) ?_
    refine k_iast okT C hK hW (shT_lt (slT2_1 ho).1 (by decide)) (fun g9 => ceT_14 (slT2_1 ho).1 (slT2_1 ho).2) hq.1 dX2_add_33 (fun H locs hW => ?_)
    have hq := hq.2
    obtain ⟨h3, eh3⟩ : ∃ z : hp, z = sI h2 (o + 2) (ix (gI h2 o 2)) x2 := ⟨_, rfl⟩
    rw [← eh3] at hW
    have hq := hq h3 eh3
    refine lv_aload_n hx hb dX2_add_34 rfl (lv_at hl 0 rfl) ?_
    refine lv_dup hx hb dX2_add_35 rfl ?_
    refine gtT2_2 C hK hW ho (List.mem_cons_of_mem _ mw87) (fun _ h9 => List.mem_cons_of_mem _ (inU_wsX20 _ h9)) dX2_add_36 ?_
    refine lv_iconst (v := 1) hx hb dX2_add_39 (by decide) ?_
    refine lv_iadd hx hb dX2_add_40 ?_
    refine ptT2_2 C hK hW ho (List.mem_cons_of_mem _ mw87) (fun _ h9 => List.mem_cons_of_mem _ (inU_wsX20 _ h9)) dX2_add_41 (fun h4 H locs eh4 hW => ?_)
    have hq := hq h4 eh4
    refine lv_aload_n hx hb dX2_add_44 rfl (lv_at hl 0 rfl) ?_
    refine gtT2_2 C hK hW ho (List.mem_cons_of_mem _ mw87) (fun _ h9 => List.mem_cons_of_mem _ (inU_wsX20 _ h9)) dX2_add_45 ?_
    refine lv_iconst (v := 1) hx hb dX2_add_48 (by decide) ?_
    refine lv_isub hx hb dX2_add_49 ?_
    exact k_iret rfl C hW dX2_add_50 hq
  · have hq := hq.2 c1
    refine lv_sipush (v := 401) hx hb dX2_add_10 (by decide) ?_
    exact k_iret rfl C hW dX2_add_13 hq
theorem cT_X2_add (l : Launch) (G : wG) {o : Nat} (ho : shT o = 2) (h : hp) (x1 : Int32) (x2 : Int32) (Q : Int32 → hp → Prop) (hq : w_X2_add o h x1 x2 Q) : ctI l ST G yX2_add wUX2_add rmX2_add h [.ref (G.2.2 o), .int x1, .int x2] Q := by
  refine k_start (cc := cX2_add) (maxL := 3) (rt := (some .int)) (own := RX2) (by decide +kernel) rfl rfl (Nat.le_of_ble_eq_true rfl) ?_
  intro p e s m below meth c ls C hK hW hl
  exact kT_X2_add_0 ho C hK hW hl hq
theorem kT_X6_clear_0 {o : Nat} (ho : shT o = 6) {Q : hp → Prop} {h : hp} (C : kC p s m args meth c cX6_clear 1 none RX6 wUX6_clear) (hK : kK G s) {H : Heap} {locs : List Loc} {ls : Array Slot} (hW : kW ST G h (aS ST G) s H locs) (hl : lv_has ls 1 [(0, .ref (G.2.2 o))]) (hq : w_X6_clear_0 o Q h) : W p l e rmX6_clear s m args below meth c H locs 0 0 (MQ below (va_Qv Q (kB ST G) (aS ST G)) args s 0 0 (aS ST G)) (F0 m 0 ls []) := by
  have hx := C.1
  have hb := C.2.1
  unfold w_X6_clear_0 at hq
  refine lv_aload_n hx hb dX6_clear_0 rfl (lv_at hl 0 rfl) ?_
  refine lv_iconst (v := 0) hx hb dX6_clear_1 (by decide) ?_
  refine ptT6_0 C hK hW ho (List.mem_cons_of_mem _ mw93) (fun _ h9 => List.mem_cons_of_mem _ (inU_wsX60 _ h9)) dX6_clear_2 (fun h1 H locs eh1 hW => ?_)
  have hq := hq h1 eh1
  refine lv_aload_n hx hb dX6_clear_5 rfl (lv_at hl 0 rfl) ?_
  refine lv_bipush (v := 97) hx hb dX6_clear_6 (by decide) ?_
  refine ptT6_1 C hK hW ho (List.mem_cons_of_mem _ mw94) (fun _ h9 => List.mem_cons_of_mem _ (inU_wsX60 _ h9)) dX6_clear_8 (fun h2 H locs eh2 hW => ?_)
  have hq := hq h2 eh2
  exact k_vret rfl C hW dX6_clear_11 hq
theorem cT_X6_clear (l : Launch) (G : wG) {o : Nat} (ho : shT o = 6) (h : hp) (Q : hp → Prop) (hq : w_X6_clear o h Q) : ctV l ST G yX6_clear wUX6_clear rmX6_clear h [.ref (G.2.2 o)] Q := by
  refine k_start (cc := cX6_clear) (maxL := 1) (rt := none) (own := RX6) (by decide +kernel) rfl rfl (Nat.le_of_ble_eq_true rfl) ?_
  intro p e s m below meth c ls C hK hW hl
  exact kT_X6_clear_0 ho C hK hW hl hq
theorem kT_X0_clear_0 {o : Nat} (ho : shT o = 0) {Q : hp → Prop} {h : hp} (C : kC p s m args meth c cX0_clear 1 none RX0 wUX0_clear) (hK : kK G s) {H : Heap} {locs : List Loc} {ls : Array Slot} (hW : kW ST G h (aS ST G) s H locs) (hl : lv_has ls 1 [(0, .ref (G.2.2 o))]) (hq : w_X0_clear_0 o Q h) : W p l e rmX0_clear s m args below meth c H locs 0 0 (MQ below (va_Qv Q (kB ST G) (aS ST G)) args s 0 0 (aS ST G)) (F0 m 0 ls []) := by
  have hx := C.1
  have hb := C.2.1
  unfold w_X0_clear_0 at hq
  refine lv_aload_n hx hb dX0_clear_0 rfl (lv_at hl 0 rfl) ?_
  refine lv_iconst (v := 0) hx hb dX0_clear_1 (by decide) ?_
  refine ptT0_0 C hK hW ho (List.mem_cons_of_mem _ mw103) (fun _ h9 => List.mem_cons_of_mem _ (inU_wsX00 _ h9)) dX0_clear_2 (fun h1 H locs eh1 hW => ?_)
  have hq := hq h1 eh1
  refine lv_aload_n hx hb dX0_clear_5 rfl (lv_at hl 0 rfl) ?_
  refine gtT0_1 C hK hW ho (List.mem_cons_of_mem _ mw104) (fun _ h9 => List.mem_cons_of_mem _ (inU_wsX00 _ h9)) dX0_clear_6 ?_
  refine lv_iconst (v := 0) hx hb dX0_clear_9 (by decide) ?_
  refine lv_iconst (v := 0) hx hb dX0_clear_10 (by decide) ?_
  refine k_iast okT C hK hW (shT_lt (slT0_1 ho).1 (by decide)) (fun g9 => ceT_14 (slT0_1 ho).1 (slT0_1 ho).2) hq.1 dX0_clear_11 (fun H locs hW => ?_)
  have hq := hq.2
  obtain ⟨h2, eh2⟩ : ∃ z : hp, z = sI h1 (o + 1) (ix 0) 0 := ⟨_, rfl⟩
  rw [← eh2] at hW
  have hq := hq h2 eh2
  exact k_vret rfl C hW dX0_clear_12 hq
theorem cT_X0_clear (l : Launch) (G : wG) {o : Nat} (ho : shT o = 0) (h : hp) (Q : hp → Prop) (hq : w_X0_clear o h Q) : ctV l ST G yX0_clear wUX0_clear rmX0_clear h [.ref (G.2.2 o)] Q := by
  refine k_start (cc := cX0_clear) (maxL := 1) (rt := none) (own := RX0) (by decide +kernel) rfl rfl (Nat.le_of_ble_eq_true rfl) ?_
  intro p e s m below meth c ls C hK hW hl
  exact kT_X0_clear_0 ho C hK hW hl hq
theorem kT_X7_clear_0 {o : Nat} (ho : shT o = 7) {Q : hp → Prop} {h : hp} (C : kC p s m args meth c cX7_clear 1 none RX7 wUX7_clear) (hK : kK G s) {H : Heap} {locs : List Loc} {ls : Array Slot} (hW : kW ST G h (aS ST G) s H locs) (hl : lv_has ls 1 [(0, .ref (G.2.2 o))]) (hq : w_X7_clear_0 o Q h) : W p l e rmX7_clear s m args below meth c H locs 0 0 (MQ below (va_Qv Q (kB ST G) (aS ST G)) args s 0 0 (aS ST G)) (F0 m 0 ls []) := by
  have hx := C.1
  have hb := C.2.1
  unfold w_X7_clear_0 at hq
  refine lv_aload_n hx hb dX7_clear_0 rfl (lv_at hl 0 rfl) ?_
  refine lv_iconst (v := 0) hx hb dX7_clear_1 (by decide) ?_
  refine ptT7_0 C hK hW ho (List.mem_cons_of_mem _ mw61) (fun _ h9 => List.mem_cons_of_mem _ (inU_wsX70 _ h9)) dX7_clear_2 (fun h1 H locs eh1 hW => ?_)
  have hq := hq h1 eh1
  refine lv_aload_n hx hb dX7_clear_5 rfl (lv_at hl 0 rfl) ?_
  refine gtT7_4 C hK hW ho (List.mem_cons_of_mem _ mw70) (fun _ h9 => List.mem_cons_of_mem _ (inU_wsX70 _ h9)) dX7_clear_6 ?_
  refine k_cv hW (va_runV (As := []) (rest := []) (k_fix C) (cT_X2_clear l G (slT7_4 ho) h1 _ hq) (cwV 0 C.2.2.2.2.2.1 (gU_V mw110 mw111 mw112 mw69 mw113) rfl rfl rfl (by decide +kernel) ⟨Nat.le_of_ble_eq_true rfl, Nat.le_of_ble_eq_true rfl⟩) (k_preV hK hW (shT_lt (slT7_4 ho) (by decide)) (ceT_2 (slT7_4 ho)) (q := (RX2, TX2, 5)) rfl) rfl rfl hl.1 rfl (lv_room (Nat.le_of_ble_eq_true rfl)) dX7_clear_9 ⟨Nat.le_refl 0, Nat.le_refl 0⟩) (fun h2 H locs hq hW => ?_)
  refine lv_aload_n hx hb dX7_clear_12 rfl (lv_at hl 0 rfl) ?_
  refine gtT7_4 C hK hW ho (List.mem_cons_of_mem _ mw70) (fun _ h9 => List.mem_cons_of_mem _ (inU_wsX70 _ h9)) dX7_clear_13 ?_
  refine lv_iconst (v := 2) hx hb dX7_clear_16 (by decide) ?_
  refine lv_iconst (v := 3) hx hb dX7_clear_17 (by decide) ?_
  refine k_ci hW (va_runV (As := [.int 2, .int 3]) (rest := []) (k_fix C) (cT_X2_add l G (slT7_4 ho) h2 2 3 _ hq) (cwV 2 C.2.2.2.2.2.1 (gU_V mw114 mw115 mw116 mw69 mw117) rfl rfl rfl (by decide +kernel) ⟨Nat.le_of_ble_eq_true rfl, Nat.le_of_ble_eq_true rfl⟩) (k_preV hK hW (shT_lt (slT7_4 ho) (by decide)) (ceT_2 (slT7_4 ho)) (q := (RX2, TX2, 5)) rfl) rfl rfl hl.1 rfl (lv_room (Nat.le_of_ble_eq_true rfl)) dX7_clear_18 ⟨Nat.le_refl 0, Nat.le_refl 0⟩) (fun r4 h3 H locs hq hW => ?_)
  refine lv_pop hx hb dX7_clear_21 rfl ?_
  refine lv_aload_n hx hb dX7_clear_22 rfl (lv_at hl 0 rfl) ?_
  refine gtT7_4 C hK hW ho (List.mem_cons_of_mem _ mw70) (fun _ h9 => List.mem_cons_of_mem _ (inU_wsX70 _ h9)) dX7_clear_23 ?_
  refine lv_iconst (v := 1) hx hb dX7_clear_26 (by decide) ?_
  refine lv_iconst (v := 1) hx hb dX7_clear_27 (by decide) ?_
  refine k_ci hW (va_runV (As := [.int 1, .int 1]) (rest := []) (k_fix C) (cT_X2_add l G (slT7_4 ho) h3 1 1 _ hq) (cwV 2 C.2.2.2.2.2.1 (gU_V mw114 mw115 mw116 mw69 mw117) rfl rfl rfl (by decide +kernel) ⟨Nat.le_of_ble_eq_true rfl, Nat.le_of_ble_eq_true rfl⟩) (k_preV hK hW (shT_lt (slT7_4 ho) (by decide)) (ceT_2 (slT7_4 ho)) (q := (RX2, TX2, 5)) rfl) rfl rfl hl.1 rfl (lv_room (Nat.le_of_ble_eq_true rfl)) dX7_clear_28 ⟨Nat.le_refl 0, Nat.le_refl 0⟩) (fun r6 h5 H locs hq hW => ?_)
  refine lv_pop hx hb dX7_clear_31 rfl ?_
  refine lv_aload_n hx hb dX7_clear_32 rfl (lv_at hl 0 rfl) ?_
  refine gtT7_4 C hK hW ho (List.mem_cons_of_mem _ mw70) (fun _ h9 => List.mem_cons_of_mem _ (inU_wsX70 _ h9)) dX7_clear_33 ?_
  refine lv_bipush (v := 43) hx hb dX7_clear_36 (by decide) ?_
  refine lv_iconst (v := 0) hx hb dX7_clear_38 (by decide) ?_
  refine k_ci hW (va_runV (As := [.int 43, .int 0]) (rest := []) (k_fix C) (cT_X2_add l G (slT7_4 ho) h5 43 0 _ hq) (cwV 2 C.2.2.2.2.2.1 (gU_V mw114 mw115 mw116 mw69 mw117) rfl rfl rfl (by decide +kernel) ⟨Nat.le_of_ble_eq_true rfl, Nat.le_of_ble_eq_true rfl⟩) (k_preV hK hW (shT_lt (slT7_4 ho) (by decide)) (ceT_2 (slT7_4 ho)) (q := (RX2, TX2, 5)) rfl) rfl rfl hl.1 rfl (lv_room (Nat.le_of_ble_eq_true rfl)) dX7_clear_39 ⟨Nat.le_refl 0, Nat.le_refl 0⟩) (fun r8 h7 H locs hq hW => ?_)
  refine lv_pop hx hb dX7_clear_42 rfl ?_
  refine lv_aload_n hx hb dX7_clear_43 rfl (lv_at hl 0 rfl) ?_
  refine gtT7_4 C hK hW ho (List.mem_cons_of_mem _ mw70) (fun _ h9 => List.mem_cons_of_mem _ (inU_wsX70 _ h9)) dX7_clear_44 ?_
  refine lv_iconst (v := 4) hx hb dX7_clear_47 (by decide) ?_
  refine lv_iconst (v := 0) hx hb dX7_clear_48 (by decide) ?_
  refine k_ci hW (va_runV (As := [.int 4, .int 0]) (rest := []) (k_fix C) (cT_X2_add l G (slT7_4 ho) h7 4 0 _ hq) (cwV 2 C.2.2.2.2.2.1 (gU_V mw114 mw115 mw116 mw69 mw117) rfl rfl rfl (by decide +kernel) ⟨Nat.le_of_ble_eq_true rfl, Nat.le_of_ble_eq_true rfl⟩) (k_preV hK hW (shT_lt (slT7_4 ho) (by decide)) (ceT_2 (slT7_4 ho)) (q := (RX2, TX2, 5)) rfl) rfl rfl hl.1 rfl (lv_room (Nat.le_of_ble_eq_true rfl)) dX7_clear_49 ⟨Nat.le_refl 0, Nat.le_refl 0⟩) (fun r10 h9 H locs hq hW => ?_)
  refine lv_pop hx hb dX7_clear_52 rfl ?_
  refine lv_aload_n hx hb dX7_clear_53 rfl (lv_at hl 0 rfl) ?_
  refine gtT7_5 C hK hW ho (List.mem_cons_of_mem _ mw74) (fun _ h9 => List.mem_cons_of_mem _ (inU_wsX70 _ h9)) dX7_clear_54 ?_
  refine k_cv hW (va_runV (As := []) (rest := []) (k_fix C) (cT_X6_clear l G (slT7_5 ho) h9 _ hq) (cwV 0 C.2.2.2.2.2.1 (gU_V mw118 mw119 mw120 mw73 mw121) rfl rfl rfl (by decide +kernel) ⟨Nat.le_of_ble_eq_true rfl, Nat.le_of_ble_eq_true rfl⟩) (k_preV hK hW (shT_lt (slT7_5 ho) (by decide)) (ceT_6 (slT7_5 ho)) (q := (RX6, TX6, 7)) rfl) rfl rfl hl.1 rfl (lv_room (Nat.le_of_ble_eq_true rfl)) dX7_clear_57 ⟨Nat.le_refl 0, Nat.le_refl 0⟩) (fun h11 H locs hq hW => ?_)
  refine lv_aload_n hx hb dX7_clear_60 rfl (lv_at hl 0 rfl) ?_
  refine gtT7_6 C hK hW ho (List.mem_cons_of_mem _ mw78) (fun _ h9 => List.mem_cons_of_mem _ (inU_wsX70 _ h9)) dX7_clear_61 ?_
  refine k_cv hW (va_runV (As := []) (rest := []) (k_fix C) (cT_X0_clear l G (slT7_6 ho) h11 _ hq) (cwV 0 C.2.2.2.2.2.1 (gU_V mw122 mw123 mw124 mw77 mw125) rfl rfl rfl (by decide +kernel) ⟨Nat.le_of_ble_eq_true rfl, Nat.le_of_ble_eq_true rfl⟩) (k_preV hK hW (shT_lt (slT7_6 ho) (by decide)) (ceT_0 (slT7_6 ho)) (q := (RX0, TX0, 3)) rfl) rfl rfl hl.1 rfl (lv_room (Nat.le_of_ble_eq_true rfl)) dX7_clear_64 ⟨Nat.le_refl 0, Nat.le_refl 0⟩) (fun h12 H locs hq hW => ?_)
  refine lv_aload_n hx hb dX7_clear_67 rfl (lv_at hl 0 rfl) ?_
  refine lv_iconst (v := 3) hx hb dX7_clear_68 (by decide) ?_
  refine ptT7_7 C hK hW ho (List.mem_cons_of_mem _ mw79) (fun _ h9 => List.mem_cons_of_mem _ (inU_wsX70 _ h9)) dX7_clear_69 (fun h13 H locs eh13 hW => ?_)
  have hq := hq h13 eh13
  refine lv_aload_n hx hb dX7_clear_72 rfl (lv_at hl 0 rfl) ?_
  refine lv_iconst (v := 3) hx hb dX7_clear_73 (by decide) ?_
  refine ptT7_8 C hK hW ho (List.mem_cons_of_mem _ mw80) (fun _ h9 => List.mem_cons_of_mem _ (inU_wsX70 _ h9)) dX7_clear_74 (fun h14 H locs eh14 hW => ?_)
  have hq := hq h14 eh14
  refine lv_aload_n hx hb dX7_clear_77 rfl (lv_at hl 0 rfl) ?_
  refine lv_iconst (v := 0) hx hb dX7_clear_78 (by decide) ?_
  refine ptT7_9 C hK hW ho (List.mem_cons_of_mem _ mw81) (fun _ h9 => List.mem_cons_of_mem _ (inU_wsX70 _ h9)) dX7_clear_79 (fun h15 H locs eh15 hW => ?_)
  have hq := hq h15 eh15
  exact k_vret rfl C hW dX7_clear_82 hq
theorem cT_X7_clear (l : Launch) (G : wG) {o : Nat} (ho : shT o = 7) (h : hp) (Q : hp → Prop) (hq : w_X7_clear o h Q) : ctV l ST G yX7_clear wUX7_clear rmX7_clear h [.ref (G.2.2 o)] Q := by
  refine k_start (cc := cX7_clear) (maxL := 1) (rt := none) (own := RX7) (by decide +kernel) rfl rfl (Nat.le_of_ble_eq_true rfl) ?_
  intro p e s m below meth c ls C hK hW hl
  exact kT_X7_clear_0 ho C hK hW hl hq
end LINKS
