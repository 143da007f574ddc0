section LINKS
variable {p : Program} {l : Launch} {e : Env} {s : State} {m : MethodId} {args : Array Value} {below : List Frame} {meth : Method} {c : Code} {G : wG}
theorem k_X6_isAt_b2 {o : Nat} (ho : shC o = 6) {Q : Int32 → Prop} {X2 : Int32 → Prop} {x1 : Int32} {h : hp} (C : kC p s m args meth c cX6_isAt 3 (some .boolean) RX6 wUX6_isAt) (hK : kK G s) (hX2 : ∀ (x2 : Int32) (H : Heap) (locs : List Loc) (ls : Array Slot), kW SC G h (aS SC G) s H locs → lv_has ls 3 [(0, .ref (G.2.2 o)), (1, .int x1), (2, .int x2)] → X2 x2 → W p l e rmX6_isAt s m args below meth c H locs 0 0 (MQ below (va_Qi (fun r9 h9 => h9 = h ∧ Q r9) (kB SC G) (aS SC G)) args s 0 0 (aS SC G)) (F0 m 2 ls [])) {x2 : Int32} {H : Heap} {locs : List Loc} {ls : Array Slot} (hW : kW SC G h (aS SC G) s H locs) (hl : lv_has ls 3 [(0, .ref (G.2.2 o)), (1, .int x1), (2, .int x2)]) (hq : w_X6_isAt_b2 o Q x1 h X2 x2) : W p l e rmX6_isAt s m args below meth c H locs 0 0 (MQ below (va_Qi (fun r9 h9 => h9 = h ∧ Q r9) (kB SC G) (aS SC G)) args s 0 0 (aS SC G)) (F0 m 2 ls []) := by
  have hx := C.1
  have hb := C.2.1
  unfold w_X6_isAt_b2 at hq
  refine lv_iload_n hx hb dX6_isAt_2 rfl (lv_at hl 2 rfl) ?_
  refine lv_aload_n hx hb dX6_isAt_3 rfl (lv_at hl 0 rfl) ?_
  refine gt6_0 C hK hW ho (List.mem_cons_of_mem _ mw93) (fun _ h9 => List.mem_cons_of_mem _ (inU_wsX60 _ h9)) dX6_isAt_4 ?_
  refine lv_icmp_ge (tgt := 28) hx hb dX6_isAt_7 (by decide) (fun c1 => ?_) (fun c1 => ?_)
  · have hq := hq.1 c1
    refine lv_iconst (v := 0) hx hb dX6_isAt_28 (by decide) ?_
    exact k_zret rfl isZ_0.1 C hW dX6_isAt_29 ⟨rfl, hq⟩
  · have hq := hq.2 c1
    refine lv_aload_n hx hb dX6_isAt_10 rfl (lv_at hl 0 rfl) ?_
    refine gt6_2 C hK hW ho (List.mem_cons_of_mem _ mw95) (fun _ h9 => List.mem_cons_of_mem _ (inU_wsX60 _ h9)) dX6_isAt_11 ?_
    refine lv_iload_n hx hb dX6_isAt_14 rfl (lv_at hl 2 rfl) ?_
    refine k_iald C hK hW (shC_lt (sl6_2 ho).1 (by decide)) (ceC_14 (sl6_2 ho).1 (sl6_2 ho).2) hq.1 dX6_isAt_15 ?_
    have hq := hq.2
    refine lv_iload_n hx hb dX6_isAt_16 rfl (lv_at hl 1 rfl) ?_
    refine lv_icmp_ne (tgt := 22) hx hb dX6_isAt_17 (by decide) (fun c2 => ?_) (fun c2 => ?_)
    · have hq := hq.1 c2
      obtain ⟨x2_3, ex2_3⟩ : ∃ y : Int32, y = x2 + 1 := ⟨_, rfl⟩
      have hq := hq x2_3 ex2_3
      refine lv_iinc (v := x2_3) (lv' := [(2, .int x2_3), (0, .ref (G.2.2 o)), (1, .int x1)]) hx hb dX6_isAt_22 hl (k := 2) rfl (by rw [ex2_3]; rfl) (by decide) rfl (fun ls hl => ?_)
      refine lv_goto (tgt := 2) hx hb dX6_isAt_25 (by decide) ?_
      exact hX2 _ _ _ _ hW (lv_sub hl [1, 2, 0] rfl) hq
    · have hq := hq.2 c2
      refine lv_iconst (v := 1) hx hb dX6_isAt_20 (by decide) ?_
      exact k_zret rfl isZ_1.1 C hW dX6_isAt_21 ⟨rfl, hq⟩
theorem k_X6_isAt_2 {o : Nat} (ho : shC o = 6) {Q : Int32 → Prop} {x1 : Int32} {h : hp} (C : kC p s m args meth c cX6_isAt 3 (some .boolean) RX6 wUX6_isAt) (hK : kK G s) {x2 : Int32} {H : Heap} {locs : List Loc} {ls : Array Slot} (hW : kW SC G h (aS SC G) s H locs) (hl : lv_has ls 3 [(0, .ref (G.2.2 o)), (1, .int x1), (2, .int x2)]) (hq : w_X6_isAt_2 o Q x1 h x2) : W p l e rmX6_isAt s m args below meth c H locs 0 0 (MQ below (va_Qi (fun r9 h9 => h9 = h ∧ Q r9) (kB SC G) (aS SC G)) args s 0 0 (aS SC G)) (F0 m 2 ls []) := by
  have key := hq (fun (q : Int32) => ∀ (H : Heap) (locs : List Loc) (ls : Array Slot), kW SC G h (aS SC G) s H locs → lv_has ls 3 [(0, .ref (G.2.2 o)), (1, .int x1), (2, .int q)] → W p l e rmX6_isAt s m args below meth c H locs 0 0 (MQ below (va_Qi (fun r9 h9 => h9 = h ∧ Q r9) (kB SC G) (aS SC G)) args s 0 0 (aS SC G)) (F0 m 2 ls []))
    (fun q hq H locs ls hW hl => k_X6_isAt_b2 ho C hK (fun x2 H locs ls hW hl hI => hI H locs ls hW hl) hW hl hq)
  exact key _ _ _ hW hl
theorem k_X6_isAt_0 {o : Nat} (ho : shC o = 6) {Q : Int32 → Prop} {x1 : Int32} {h : hp} (C : kC p s m args meth c cX6_isAt 3 (some .boolean) RX6 wUX6_isAt) (hK : kK G s) {H : Heap} {locs : List Loc} {ls : Array Slot} (hW : kW SC G h (aS SC G) s H locs) (hl : lv_has ls 3 [(0, .ref (G.2.2 o)), (1, .int x1)]) (hq : w_X6_isAt_0 o Q x1 h) : W p l e rmX6_isAt s m args below meth c H locs 0 0 (MQ below (va_Qi (fun r9 h9 => h9 = h ∧ Q r9) (kB SC G) (aS SC G)) args s 0 0 (aS SC G)) (F0 m 0 ls []) := by
  have hx := C.1
  have hb := C.2.1
  unfold w_X6_isAt_0 at hq
  refine lv_iconst (v := 0) hx hb dX6_isAt_0 (by decide) ?_
  refine lv_istore_n (lv' := [(2, .int 0), (0, .ref (G.2.2 o)), (1, .int x1)]) hx hb dX6_isAt_1 rfl hl (by decide) rfl (fun ls hl => ?_)
  exact k_X6_isAt_2 ho C hK hW (lv_sub hl [1, 2, 0] rfl) hq
theorem c_X6_isAt (l : Launch) (G : wG) {o : Nat} (ho : shC o = 6) (h : hp) (x1 : Int32) (Q : Int32 → Prop) (hq : w_X6_isAt o h x1 Q) : ctI l SC G yX6_isAt wUX6_isAt rmX6_isAt h [.ref (G.2.2 o), .int x1] (fun r9 h9 => h9 = h ∧ Q r9) := by
  refine k_start (cc := cX6_isAt) (maxL := 3) (rt := (some .boolean)) (own := RX6) (by decide +kernel) rfl rfl (Nat.le_of_ble_eq_true rfl) ?_
  intro p e s m below meth c ls C hK hW hl
  exact k_X6_isAt_0 ho C hK hW hl hq
theorem k_X6_add_0 {o : Nat} (ho : shC o = 6) {Q : hp → Prop} {x1 : Int32} {x2 : Int32} {x3 : Int32} {h : hp} (C : kC p s m args meth c cX6_add 4 none RX6 wUX6_add) (hK : kK G s) {H : Heap} {locs : List Loc} {ls : Array Slot} (hW : kW SC G h (aS SC G) s H locs) (hl : lv_has ls 4 [(0, .ref (G.2.2 o)), (1, .int x1), (2, .int x2), (3, .int x3)]) (hq : w_X6_add_0 o Q x1 x2 x3 h) : W p l e rmX6_add s m args below meth c H locs 0 0 (MQ below (va_Qv Q (kB SC G) (aS SC G)) args s 0 0 (aS SC G)) (F0 m 0 ls []) := by
  have hx := C.1
  have hb := C.2.1
  unfold w_X6_add_0 at hq
  refine lv_aload_n hx hb dX6_add_0 rfl (lv_at hl 0 rfl) ?_
  refine gt6_0 C hK hW ho (List.mem_cons_of_mem _ mw93) (fun _ h9 => List.mem_cons_of_mem _ (inU_wsX60 _ h9)) dX6_add_1 ?_
  refine lv_bipush (v := 8) hx hb dX6_add_4 (by decide) ?_
  refine lv_icmp_ge (tgt := 49) hx hb dX6_add_6 (by decide) (fun c1 => ?_) (fun c1 => ?_)
  · have hq := hq.1 c1
    exact k_vret rfl C hW dX6_add_49 hq
  · have hq := hq.2 c1
    refine lv_aload_n hx hb dX6_add_9 rfl (lv_at hl 0 rfl) ?_
    refine gt6_2 C hK hW ho (List.mem_cons_of_mem _ mw95) (fun _ h9 => List.mem_cons_of_mem _ (inU_wsX60 _ h9)) dX6_add_10 ?_
    refine lv_aload_n hx hb dX6_add_13 rfl (lv_at hl 0 rfl) ?_
    refine gt6_0 C hK hW ho (List.mem_cons_of_mem _ mw93) (fun _ h9 => List.mem_cons_of_mem _ (inU_wsX60 _ h9)) dX6_add_14 ?_
    refine lv_iload_n hx hb dX6_add_17 rfl (lv_at hl 1 rfl) ?_
    refine k_iast okC C hK hW (shC_lt (sl6_2 ho).1 (by decide)) (fun g9 => ceC_14 (sl6_2 ho).1 (sl6_2 ho).2) hq.1 dX6_add_18 (fun H locs hW => ?_)
    have hq := hq.2
    obtain ⟨h2, eh2⟩ : ∃ z : hp, z = sI h (o + 1) (ix (gI h o 0)) x1 := ⟨_, rfl⟩
    rw [← eh2] at hW
    have hq := hq h2 eh2
    refine lv_aload_n hx hb dX6_add_19 rfl (lv_at hl 0 rfl) ?_
    refine gt6_4 C hK hW ho (List.mem_cons_of_mem _ mw97) (fun _ h9 => List.mem_cons_of_mem _ (inU_wsX60 _ h9)) dX6_add_20 ?_
    refine lv_aload_n hx hb dX6_add_23 rfl (lv_at hl 0 rfl) ?_
    refine gt6_0 C hK hW ho (List.mem_cons_of_mem _ mw93) (fun _ h9 => List.mem_cons_of_mem _ (inU_wsX60 _ h9)) dX6_add_24 ?_
    refine lv_iload_n hx hb dX6_add_27 rfl (lv_at hl 2 rfl) ?_
    refine k_iast okC C hK hW (shC_lt (sl6_4 ho).1 (by decide)) (fun g9 => ceC_14 (sl6_4 ho).1 (sl6_4 ho).2) hq.1 dX6_add_28 (fun H locs hW => ?_)
    have hq := hq.2
    obtain ⟨h3, eh3⟩ : ∃ z : hp, z = sI h2 (o + 3) (ix (gI h2 o 0)) x2 := ⟨_, rfl⟩
    rw [← eh3] at hW
    have hq := hq h3 eh3
    refine lv_aload_n hx hb dX6_add_29 rfl (lv_at hl 0 rfl) ?_
    refine gt6_3 C hK hW ho (List.mem_cons_of_mem _ mw96) (fun _ h9 => List.mem_cons_of_mem _ (inU_wsX60 _ h9)) dX6_add_30 ?_
    refine lv_aload_n hx hb dX6_add_33 rfl (lv_at hl 0 rfl) ?_
    refine gt6_0 C hK hW ho (List.mem_cons_of_mem _ mw93) (fun _ h9 => List.mem_cons_of_mem _ (inU_wsX60 _ h9)) dX6_add_34 ?_
    refine lv_iload_n hx hb dX6_add_37 rfl (lv_at hl 3 rfl) ?_
    refine k_iast okC C hK hW (shC_lt (sl6_3 ho).1 (by decide)) (fun g9 => ceC_14 (sl6_3 ho).1 (sl6_3 ho).2) hq.1 dX6_add_38 (fun H locs hW => ?_)
    have hq := hq.2
    obtain ⟨h4, eh4⟩ : ∃ z : hp, z = sI h3 (o + 2) (ix (gI h3 o 0)) x3 := ⟨_, rfl⟩
    rw [← eh4] at hW
    have hq := hq h4 eh4
    refine lv_aload_n hx hb dX6_add_39 rfl (lv_at hl 0 rfl) ?_
    refine lv_dup hx hb dX6_add_40 rfl ?_
    refine gt6_0 C hK hW ho (List.mem_cons_of_mem _ mw93) (fun _ h9 => List.mem_cons_of_mem _ (inU_wsX60 _ h9)) dX6_add_41 ?_
    refine lv_iconst (v := 1) hx hb dX6_add_44 (by decide) ?_
    refine lv_iadd hx hb dX6_add_45 ?_
    refine pt6_0 C hK hW ho (List.mem_cons_of_mem _ mw93) (fun _ h9 => List.mem_cons_of_mem _ (inU_wsX60 _ h9)) dX6_add_46 (fun h5 H locs eh5 hW => ?_)
    have hq := hq h5 eh5
    exact k_vret rfl C hW dX6_add_49 hq
theorem c_X6_add (l : Launch) (G : wG) {o : Nat} (ho : shC o = 6) (h : hp) (x1 : Int32) (x2 : Int32) (x3 : Int32) (Q : hp → Prop) (hq : w_X6_add o h x1 x2 x3 Q) : ctV l SC G yX6_add wUX6_add rmX6_add h [.ref (G.2.2 o), .int x1, .int x2, .int x3] Q := by
  refine k_start (cc := cX6_add) (maxL := 4) (rt := none) (own := RX6) (by decide +kernel) rfl rfl (Nat.le_of_ble_eq_true rfl) ?_
  intro p e s m below meth c ls C hK hW hl
  exact k_X6_add_0 ho C hK hW hl hq
theorem k_X5_tellShare_87 {Q : Int32 → hp → Prop} {h : hp} {s0 : Int32} {s1 : Int32} {s2 : Int32} (C : kC p s m args meth c cX5_tellShare 2 (some .boolean) RX5 wUX5_tellShare) (hK : kK G s) {q3 : Nat} (hq3 : shC q3 = 6) {H : Heap} {locs : List Loc} {ls : Array Slot} (hW : kW SC G h (aS SC G) s H locs) (hl : lv_has ls 2 []) (hq : w_X5_tellShare_87 Q h s0 s1 s2 q3) : W p l e rmX5_tellShare s m args below meth c H locs 0 0 (MQ below (va_Qi Q (kB SC G) (aS SC G)) args s 0 0 (aS SC G)) (F0 m 87 ls [.int s0, .int s1, .int s2, .ref (G.2.2 q3)]) := by
  have hx := C.1
  have hb := C.2.1
  unfold w_X5_tellShare_87 at hq
  refine k_cv hW (va_runV (As := [.int s2, .int s1, .int s0]) (rest := []) (k_fix C) (c_X6_add l G hq3 h s2 s1 s0 _ hq) (cwV 3 C.2.2.2.2.2.1 (gU_V mw560 mw561 mw562 mw73 mw563) rfl rfl rfl (by decide +kernel) ⟨Nat.le_of_ble_eq_true rfl, Nat.le_of_ble_eq_true rfl⟩) (k_preV hK hW (shC_lt hq3 (by decide)) (ceC_6 hq3) (q := (RX6, TX6, 7)) rfl) rfl rfl hl.1 rfl (lv_room (Nat.le_of_ble_eq_true rfl)) dX5_tellShare_87 ⟨Nat.le_refl 0, Nat.le_refl 0⟩) (fun h18 H locs hq hW => ?_)
  refine lv_iconst (v := 1) hx hb dX5_tellShare_90 (by decide) ?_
  exact k_zret rfl isZ_1.1 C hW dX5_tellShare_91 hq
theorem k_X5_tellShare_38 {Q : Int32 → hp → Prop} {x1 : Int32} {h : hp} (C : kC p s m args meth c cX5_tellShare 2 (some .boolean) RX5 wUX5_tellShare) (hK : kK G s) {H : Heap} {locs : List Loc} {ls : Array Slot} (hW : kW SC G h (aS SC G) s H locs) (hl : lv_has ls 2 [(0, .ref (G.2.2 2)), (1, .int x1)]) (hq : w_X5_tellShare_38 Q x1 h) : W p l e rmX5_tellShare s m args below meth c H locs 0 0 (MQ below (va_Qi Q (kB SC G) (aS SC G)) args s 0 0 (aS SC G)) (F0 m 38 ls []) := by
  have hx := C.1
  have hb := C.2.1
  unfold w_X5_tellShare_38 at hq
  refine lv_aload_n hx hb dX5_tellShare_38 rfl (lv_at hl 0 rfl) ?_
  refine lv_iconst (v := 1) hx hb dX5_tellShare_39 (by decide) ?_
  refine lv_iconst (v := 0) hx hb dX5_tellShare_40 (by decide) ?_
  refine lv_bipush (v := 96) hx hb dX5_tellShare_41 (by decide) ?_
  refine k_ci hW (va_runV (As := [.int 1, .int 0, .int 96]) (rest := []) (k_fix C) (c_X5_takenWithin l G h 1 0 96 _ hq) (cwV 3 C.2.2.2.2.2.1 (gU_V mw442 mw443 mw444 mw19 mw445) rfl rfl rfl (by decide +kernel) ⟨Nat.le_of_ble_eq_true rfl, Nat.le_of_ble_eq_true rfl⟩) (k_preV hK hW (shC_lt (rfl : shC 2 = 5) (by decide)) (ceC_5 (rfl : shC 2 = 5)) (q := (RX5, TX5, 7)) rfl) rfl rfl hl.1 rfl (lv_room (Nat.le_of_ble_eq_true rfl)) dX5_tellShare_43 ⟨Nat.le_refl 0, Nat.le_refl 0⟩) (fun r13 h12 H locs hq hW => ?_)
  refine lv_pop hx hb dX5_tellShare_46 rfl ?_
  refine lv_aload_n hx hb dX5_tellShare_47 rfl (lv_at hl 0 rfl) ?_
  refine gt5_4 C hK hW (rfl : shC 2 = 5) (List.mem_cons_of_mem _ mw48) (fun _ h9 => List.mem_cons_of_mem _ (inU_wsX50 _ h9)) dX5_tellShare_48 ?_
  have hr14 := hq.1
  have hq := hq.2
  refine gt7_5 C hK hW hr14 (List.mem_cons_of_mem _ mw555) (fun _ h9 => List.mem_cons_of_mem _ (inU_wsX70 _ h9)) dX5_tellShare_51 ?_
  refine lv_iload_n hx hb dX5_tellShare_54 rfl (lv_at hl 1 rfl) ?_
  refine lv_aload_n hx hb dX5_tellShare_55 rfl (lv_at hl 0 rfl) ?_
  refine lv_iconst (v := 1) hx hb dX5_tellShare_56 (by decide) ?_
  refine k_cl hW (va_runV (As := [.int 1]) (rest := [.int x1, .ref (G.2.2 ((gR h12 1) + 9))]) (k_fix C) (c_X5_taken l G h12 1 _ hq) (cwV 1 C.2.2.2.2.2.1 (gU_V mw425 mw426 mw427 mw19 mw428) rfl rfl rfl (by decide +kernel) ⟨Nat.le_of_ble_eq_true rfl, Nat.le_of_ble_eq_true rfl⟩) (k_preV hK hW (shC_lt (rfl : shC 2 = 5) (by decide)) (ceC_5 (rfl : shC 2 = 5)) (q := (RX5, TX5, 7)) rfl) rfl rfl hl.1 rfl (lv_room (Nat.le_of_ble_eq_true rfl)) dX5_tellShare_57 ⟨Nat.le_refl 0, Nat.le_refl 0⟩) (fun r15 h16 H locs hq hW => ?_)
  rw [hq.1] at hW
  have hq := hq.2
  refine lv_l2i (v := r15.toInt32) hx hb dX5_tellShare_60 rfl ?_
  refine lv_aload_n hx hb dX5_tellShare_61 rfl (lv_at hl 0 rfl) ?_
  refine gt5_2 C hK hW (rfl : shC 2 = 5) (List.mem_cons_of_mem _ mw45) (fun _ h9 => List.mem_cons_of_mem _ (inU_wsX50 _ h9)) dX5_tellShare_62 ?_
  refine lv_iconst (v := 2) hx hb dX5_tellShare_65 (by decide) ?_
  refine lv_icmp_lt (tgt := 86) hx hb dX5_tellShare_66 (by decide) (fun c17 => ?_) (fun c17 => ?_)
  · have hq := hq.1 c17
    refine lv_iconst (v := 0) hx hb dX5_tellShare_86 (by decide) ?_
    exact k_X5_tellShare_87 C hK (sl7_5 hr14) hW (lv_sub hl [] rfl) hq
  · have hq := hq.2 c17
    refine lv_aload_n hx hb dX5_tellShare_69 rfl (lv_at hl 0 rfl) ?_
    refine gt5_5 C hK hW (rfl : shC 2 = 5) (List.mem_cons_of_mem _ mw52) (fun _ h9 => List.mem_cons_of_mem _ (inU_wsX50 _ h9)) dX5_tellShare_70 ?_
    refine gt8_1 C hK hW (rfl : shC 3 = 8) (List.mem_cons_of_mem _ mw410) (fun _ h9 => List.mem_cons_of_mem _ (inU_wsX80 _ h9)) dX5_tellShare_73 ?_
    refine lv_aload_n hx hb dX5_tellShare_76 rfl (lv_at hl 0 rfl) ?_
    refine gt5_2 C hK hW (rfl : shC 2 = 5) (List.mem_cons_of_mem _ mw45) (fun _ h9 => List.mem_cons_of_mem _ (inU_wsX50 _ h9)) dX5_tellShare_77 ?_
    refine lv_iconst (v := 2) hx hb dX5_tellShare_80 (by decide) ?_
    refine lv_isub hx hb dX5_tellShare_81 ?_
    refine k_iald C hK hW (shC_lt (rfl : shC 5 = 14) (by decide)) (ceC_14 (rfl : shC 5 = 14) (rfl : lnC 5 = 402)) hq.1 dX5_tellShare_82 ?_
    have hq := hq.2
    refine lv_goto (tgt := 87) hx hb dX5_tellShare_83 (by decide) ?_
    exact k_X5_tellShare_87 C hK (sl7_5 hr14) hW (lv_sub hl [] rfl) hq
theorem k_X5_tellShare_0 {Q : Int32 → hp → Prop} {h : hp} (C : kC p s m args meth c cX5_tellShare 2 (some .boolean) RX5 wUX5_tellShare) (hK : kK G s) {H : Heap} {locs : List Loc} {ls : Array Slot} (hW : kW SC G h (aS SC G) s H locs) (hl : lv_has ls 2 [(0, .ref (G.2.2 2))]) (hq : w_X5_tellShare_0 Q h) : W p l e rmX5_tellShare s m args below meth c H locs 0 0 (MQ below (va_Qi Q (kB SC G) (aS SC G)) args s 0 0 (aS SC G)) (F0 m 0 ls []) := by
  have hx := C.1
  have hb := C.2.1
  unfold w_X5_tellShare_0 at hq
  refine lv_aload_n hx hb dX5_tellShare_0 rfl (lv_at hl 0 rfl) ?_
  refine lv_iconst (v := 2) hx hb dX5_tellShare_1 (by decide) ?_
  refine k_cl hW (va_runV (As := [.int 2]) (rest := []) (k_fix C) (c_X5_taken l G h 2 _ hq) (cwV 1 C.2.2.2.2.2.1 (gU_V mw425 mw426 mw427 mw19 mw428) rfl rfl rfl (by decide +kernel) ⟨Nat.le_of_ble_eq_true rfl, Nat.le_of_ble_eq_true rfl⟩) (k_preV hK hW (shC_lt (rfl : shC 2 = 5) (by decide)) (ceC_5 (rfl : shC 2 = 5)) (q := (RX5, TX5, 7)) rfl) rfl rfl hl.1 rfl (lv_room (Nat.le_of_ble_eq_true rfl)) dX5_tellShare_2 ⟨Nat.le_refl 0, Nat.le_refl 0⟩) (fun r1 h2 H locs hq hW => ?_)
  rw [hq.1] at hW
  have hq := hq.2
  refine lv_l2i (v := r1.toInt32) hx hb dX5_tellShare_5 rfl ?_
  refine lv_topi (fun x1_3 ex1_3 => ?_)
  have hq := hq x1_3 ex1_3
  refine lv_istore_n (lv' := [(1, .int x1_3), (0, .ref (G.2.2 2))]) hx hb dX5_tellShare_6 rfl hl (by decide) rfl (fun ls hl => ?_)
  refine lv_aload_n hx hb dX5_tellShare_7 rfl (lv_at hl 1 rfl) ?_
  refine lv_iconst (v := 2) hx hb dX5_tellShare_8 (by decide) ?_
  refine lv_iconst (v := 1) hx hb dX5_tellShare_9 (by decide) ?_
  refine lv_bipush (v := 96) hx hb dX5_tellShare_10 (by decide) ?_
  refine k_ci hW (va_runV (As := [.int 2, .int 1, .int 96]) (rest := []) (k_fix C) (c_X5_takenWithin l G h 2 1 96 _ hq) (cwV 3 C.2.2.2.2.2.1 (gU_V mw442 mw443 mw444 mw19 mw445) rfl rfl rfl (by decide +kernel) ⟨Nat.le_of_ble_eq_true rfl, Nat.le_of_ble_eq_true rfl⟩) (k_preV hK hW (shC_lt (rfl : shC 2 = 5) (by decide)) (ceC_5 (rfl : shC 2 = 5)) (q := (RX5, TX5, 7)) rfl) rfl rfl hl.1 rfl (lv_room (Nat.le_of_ble_eq_true rfl)) dX5_tellShare_12 ⟨Nat.le_refl 0, Nat.le_refl 0⟩) (fun r5 h4 H locs hq hW => ?_)
  refine lv_if_eq (tgt := 38) hx hb dX5_tellShare_15 (by decide) (fun c6 => ?_) (fun c6 => ?_)
  · have hq := hq.1 c6
    exact k_X5_tellShare_38 C hK hW (lv_sub hl [1, 0] rfl) hq
  · have hq := hq.2 c6
    refine lv_aload_n hx hb dX5_tellShare_18 rfl (lv_at hl 1 rfl) ?_
    refine gt5_4 C hK hW (rfl : shC 2 = 5) (List.mem_cons_of_mem _ mw48) (fun _ h9 => List.mem_cons_of_mem _ (inU_wsX50 _ h9)) dX5_tellShare_19 ?_
    have hr7 := hq.1
    have hq := hq.2
    refine gt7_5 C hK hW hr7 (List.mem_cons_of_mem _ mw555) (fun _ h9 => List.mem_cons_of_mem _ (inU_wsX70 _ h9)) dX5_tellShare_22 ?_
    refine lv_iload_n hx hb dX5_tellShare_25 rfl (lv_at hl 0 rfl) ?_
    refine k_ci hW (va_runV (As := [.int x1_3]) (rest := []) (k_fix C) (c_X6_isAt l G (sl7_5 hr7) h4 x1_3 _ hq) (cwV 1 C.2.2.2.2.2.1 (gU_V mw556 mw557 mw558 mw73 mw559) rfl rfl rfl (by decide +kernel) ⟨Nat.le_of_ble_eq_true rfl, Nat.le_of_ble_eq_true rfl⟩) (k_preV hK hW (shC_lt (sl7_5 hr7) (by decide)) (ceC_6 (sl7_5 hr7)) (q := (RX6, TX6, 7)) rfl) rfl rfl hl.1 rfl (lv_room (Nat.le_of_ble_eq_true rfl)) dX5_tellShare_26 ⟨Nat.le_refl 0, Nat.le_refl 0⟩) (fun r8 h9 H locs hq hW => ?_)
    rw [hq.1] at hW
    have hq := hq.2
    refine lv_if_eq (tgt := 38) hx hb dX5_tellShare_29 (by decide) (fun c10 => ?_) (fun c10 => ?_)
    · have hq := hq.1 c10
      exact k_X5_tellShare_38 C hK hW (lv_sub hl [1, 0] rfl) hq
    · have hq := hq.2 c10
      refine lv_aload_n hx hb dX5_tellShare_32 rfl (lv_at hl 1 rfl) ?_
      refine lv_iconst (v := 5) hx hb dX5_tellShare_33 (by decide) ?_
      refine lv_iconst (v := 2) hx hb dX5_tellShare_34 (by decide) ?_
      refine k_cv hW (va_runV (As := [.int 5, .int 2]) (rest := []) (k_fix C) (c_X5_note l G h4 5 2 _ hq) (cwV 2 C.2.2.2.2.2.1 (gU_V mw434 mw435 mw436 mw19 mw437) rfl rfl rfl (by decide +kernel) ⟨Nat.le_of_ble_eq_true rfl, Nat.le_of_ble_eq_true rfl⟩) (k_preV hK hW (shC_lt (rfl : shC 2 = 5) (by decide)) (ceC_5 (rfl : shC 2 = 5)) (q := (RX5, TX5, 7)) rfl) rfl rfl hl.1 rfl (lv_room (Nat.le_of_ble_eq_true rfl)) dX5_tellShare_35 ⟨Nat.le_refl 0, Nat.le_refl 0⟩) (fun h11 H locs hq hW => ?_)
      exact k_X5_tellShare_38 C hK hW (lv_sub hl [1, 0] rfl) hq
theorem c_X5_tellShare (l : Launch) (G : wG) (h : hp) (Q : Int32 → hp → Prop) (hq : w_X5_tellShare h Q) : ctI l SC G yX5_tellShare wUX5_tellShare rmX5_tellShare h [.ref (G.2.2 2)] Q := by
  refine k_start (cc := cX5_tellShare) (maxL := 2) (rt := (some .boolean)) (own := RX5) (by decide +kernel) rfl rfl (Nat.le_of_ble_eq_true rfl) ?_
  intro p e s m below meth c ls C hK hW hl
  exact k_X5_tellShare_0 C hK hW hl hq
theorem k_X5_tellBound_0 {Q : Int32 → hp → Prop} {h : hp} (C : kC p s m args meth c cX5_tellBound 1 (some .boolean) RX5 wUX5_tellBound) (hK : kK G s) {H : Heap} {locs : List Loc} {ls : Array Slot} (hW : kW SC G h (aS SC G) s H locs) (hl : lv_has ls 1 [(0, .ref (G.2.2 2))]) (hq : w_X5_tellBound_0 Q h) : W p l e rmX5_tellBound s m args below meth c H locs 0 0 (MQ below (va_Qi Q (kB SC G) (aS SC G)) args s 0 0 (aS SC G)) (F0 m 0 ls []) := by
  have hx := C.1
  have hb := C.2.1
  unfold w_X5_tellBound_0 at hq
  refine lv_aload_n hx hb dX5_tellBound_0 rfl (lv_at hl 0 rfl) ?_
  refine lv_iconst (v := 2) hx hb dX5_tellBound_1 (by decide) ?_
  refine lv_iconst (v := 1) hx hb dX5_tellBound_2 (by decide) ?_
  refine lv_iconst (v := 4) hx hb dX5_tellBound_3 (by decide) ?_
  refine k_ci hW (va_runV (As := [.int 2, .int 1, .int 4]) (rest := []) (k_fix C) (c_X5_takenWithin l G h 2 1 4 _ hq) (cwV 3 C.2.2.2.2.2.1 (gU_V mw442 mw443 mw444 mw19 mw445) rfl rfl rfl (by decide +kernel) ⟨Nat.le_of_ble_eq_true rfl, Nat.le_of_ble_eq_true rfl⟩) (k_preV hK hW (shC_lt (rfl : shC 2 = 5) (by decide)) (ceC_5 (rfl : shC 2 = 5)) (q := (RX5, TX5, 7)) rfl) rfl rfl hl.1 rfl (lv_room (Nat.le_of_ble_eq_true rfl)) dX5_tellBound_4 ⟨Nat.le_refl 0, Nat.le_refl 0⟩) (fun r2 h1 H locs hq hW => ?_)
  refine lv_if_eq (tgt := 47) hx hb dX5_tellBound_7 (by decide) (fun c3 => ?_) (fun c3 => ?_)
  · have hq := hq.1 c3
    refine lv_iconst (v := 1) hx hb dX5_tellBound_47 (by decide) ?_
    exact k_zret rfl isZ_1.1 C hW dX5_tellBound_48 hq
  · have hq := hq.2 c3
    refine lv_aload_n hx hb dX5_tellBound_10 rfl (lv_at hl 0 rfl) ?_
    refine lv_iconst (v := 1) hx hb dX5_tellBound_11 (by decide) ?_
    refine lv_iconst (v := 1) hx hb dX5_tellBound_12 (by decide) ?_
    refine lv_bipush (v := 9) hx hb dX5_tellBound_13 (by decide) ?_
    refine k_ci hW (va_runV (As := [.int 1, .int 1, .int 9]) (rest := []) (k_fix C) (c_X5_takenWithin l G h1 1 1 9 _ hq) (cwV 3 C.2.2.2.2.2.1 (gU_V mw442 mw443 mw444 mw19 mw445) rfl rfl rfl (by decide +kernel) ⟨Nat.le_of_ble_eq_true rfl, Nat.le_of_ble_eq_true rfl⟩) (k_preV hK hW (shC_lt (rfl : shC 2 = 5) (by decide)) (ceC_5 (rfl : shC 2 = 5)) (q := (RX5, TX5, 7)) rfl) rfl rfl hl.1 rfl (lv_room (Nat.le_of_ble_eq_true rfl)) dX5_tellBound_15 ⟨Nat.le_refl 0, Nat.le_refl 0⟩) (fun r5 h4 H locs hq hW => ?_)
    refine lv_if_eq (tgt := 47) hx hb dX5_tellBound_18 (by decide) (fun c6 => ?_) (fun c6 => ?_)
    · have hq := hq.1 c6
      refine lv_iconst (v := 1) hx hb dX5_tellBound_47 (by decide) ?_
      exact k_zret rfl isZ_1.1 C hW dX5_tellBound_48 hq
    · have hq := hq.2 c6
      refine lv_aload_n hx hb dX5_tellBound_21 rfl (lv_at hl 0 rfl) ?_
      refine gt5_4 C hK hW (rfl : shC 2 = 5) (List.mem_cons_of_mem _ mw48) (fun _ h9 => List.mem_cons_of_mem _ (inU_wsX50 _ h9)) dX5_tellBound_22 ?_
      have hr7 := hq.1
      have hq := hq.2
      refine lv_aload_n hx hb dX5_tellBound_25 rfl (lv_at hl 0 rfl) ?_
      refine lv_iconst (v := 2) hx hb dX5_tellBound_26 (by decide) ?_
      refine k_cl hW (va_runV (As := [.int 2]) (rest := [.ref (G.2.2 (gR h4 1))]) (k_fix C) (c_X5_taken l G h4 2 _ hq) (cwV 1 C.2.2.2.2.2.1 (gU_V mw425 mw426 mw427 mw19 mw428) rfl rfl rfl (by decide +kernel) ⟨Nat.le_of_ble_eq_true rfl, Nat.le_of_ble_eq_true rfl⟩) (k_preV hK hW (shC_lt (rfl : shC 2 = 5) (by decide)) (ceC_5 (rfl : shC 2 = 5)) (q := (RX5, TX5, 7)) rfl) rfl rfl hl.1 rfl (lv_room (Nat.le_of_ble_eq_true rfl)) dX5_tellBound_27 ⟨Nat.le_refl 0, Nat.le_refl 0⟩) (fun r8 h9 H locs hq hW => ?_)
      rw [hq.1] at hW
      have hq := hq.2
      refine lv_l2i (v := r8.toInt32) hx hb dX5_tellBound_30 rfl ?_
      refine pt7_7 C hK hW hr7 (List.mem_cons_of_mem _ mw568) (fun _ h9 => List.mem_cons_of_mem _ (inU_wsX70 _ h9)) dX5_tellBound_31 (fun h10 H locs eh10 hW => ?_)
      have hq := hq h10 eh10
      refine lv_aload_n hx hb dX5_tellBound_34 rfl (lv_at hl 0 rfl) ?_
      refine gt5_4 C hK hW (rfl : shC 2 = 5) (List.mem_cons_of_mem _ mw48) (fun _ h9 => List.mem_cons_of_mem _ (inU_wsX50 _ h9)) dX5_tellBound_35 ?_
      have hr11 := hq.1
      have hq := hq.2
      refine lv_aload_n hx hb dX5_tellBound_38 rfl (lv_at hl 0 rfl) ?_
      refine lv_iconst (v := 1) hx hb dX5_tellBound_39 (by decide) ?_
      refine k_cl hW (va_runV (As := [.int 1]) (rest := [.ref (G.2.2 (gR h10 1))]) (k_fix C) (c_X5_taken l G h10 1 _ hq) (cwV 1 C.2.2.2.2.2.1 (gU_V mw425 mw426 mw427 mw19 mw428) rfl rfl rfl (by decide +kernel) ⟨Nat.le_of_ble_eq_true rfl, Nat.le_of_ble_eq_true rfl⟩) (k_preV hK hW (shC_lt (rfl : shC 2 = 5) (by decide)) (ceC_5 (rfl : shC 2 = 5)) (q := (RX5, TX5, 7)) rfl) rfl rfl hl.1 rfl (lv_room (Nat.le_of_ble_eq_true rfl)) dX5_tellBound_40 ⟨Nat.le_refl 0, Nat.le_refl 0⟩) (fun r12 h13 H locs hq hW => ?_)
      rw [hq.1] at hW
      have hq := hq.2
      refine lv_l2i (v := r12.toInt32) hx hb dX5_tellBound_43 rfl ?_
      refine pt7_8 C hK hW hr11 (List.mem_cons_of_mem _ mw569) (fun _ h9 => List.mem_cons_of_mem _ (inU_wsX70 _ h9)) dX5_tellBound_44 (fun h14 H locs eh14 hW => ?_)
      have hq := hq h14 eh14
      refine lv_iconst (v := 1) hx hb dX5_tellBound_47 (by decide) ?_
      exact k_zret rfl isZ_1.1 C hW dX5_tellBound_48 hq
theorem c_X5_tellBound (l : Launch) (G : wG) (h : hp) (Q : Int32 → hp → Prop) (hq : w_X5_tellBound h Q) : ctI l SC G yX5_tellBound wUX5_tellBound rmX5_tellBound h [.ref (G.2.2 2)] Q := by
  refine k_start (cc := cX5_tellBound) (maxL := 1) (rt := (some .boolean)) (own := RX5) (by decide +kernel) rfl rfl (Nat.le_of_ble_eq_true rfl) ?_
  intro p e s m below meth c ls C hK hW hl
  exact k_X5_tellBound_0 C hK hW hl hq
theorem k_X5_isPrime_b2 {Q : Int32 → Prop} {X2 : Int32 → Prop} {x0 : Int32} {h : hp} (C : kC p s m args meth c cX5_isPrime 2 (some .boolean) RX5 wUX5_isPrime) (hK : kK G s) (hX2 : ∀ (x1 : Int32) (H : Heap) (locs : List Loc) (ls : Array Slot), kW SC G h (aS SC G) s H locs → lv_has ls 2 [(0, .int x0), (1, .int x1)] → X2 x1 → W p l e rmX5_isPrime s m args below meth c H locs 0 0 (MQ below (va_Qi (fun r9 h9 => h9 = h ∧ Q r9) (kB SC G) (aS SC G)) args s 0 0 (aS SC G)) (F0 m 2 ls [])) {x1 : Int32} {H : Heap} {locs : List Loc} {ls : Array Slot} (hW : kW SC G h (aS SC G) s H locs) (hl : lv_has ls 2 [(0, .int x0), (1, .int x1)]) (hq : w_X5_isPrime_b2 Q x0 X2 x1) : W p l e rmX5_isPrime s m args below meth c H locs 0 0 (MQ below (va_Qi (fun r9 h9 => h9 = h ∧ Q r9) (kB SC G) (aS SC G)) args s 0 0 (aS SC G)) (F0 m 2 ls []) := by
  have hx := C.1
  have hb := C.2.1
  unfold w_X5_isPrime_b2 at hq
  refine lv_iload_n hx hb dX5_isPrime_2 rfl (lv_at hl 1 rfl) ?_
  refine lv_iload_n hx hb dX5_isPrime_3 rfl (lv_at hl 0 rfl) ?_
  refine lv_icmp_ge (tgt := 21) hx hb dX5_isPrime_4 (by decide) (fun c1 => ?_) (fun c1 => ?_)
  · have hq := hq.1 c1
    refine lv_iload_n hx hb dX5_isPrime_21 rfl (lv_at hl 0 rfl) ?_
    refine lv_i2l (v := x0.toInt64) hx hb dX5_isPrime_22 rfl ?_
    refine lv_ldc2 (v := 2) hx hb C.2.2.2.2.1 (C.2.2.2.2.2.1 _ (List.mem_cons_of_mem _ mw588)) dX5_isPrime_23 ?_
    refine lv_ldc2 (v := 97) hx hb C.2.2.2.2.1 (C.2.2.2.2.2.1 _ (List.mem_cons_of_mem _ mw589)) dX5_isPrime_26 ?_
    refine k_ci hW (va_runSN (As := [.long (x0.toInt64), .long 2, .long 97]) (rest := []) (k_fix C) (c_X11_within l G h (x0.toInt64) 2 97 _ hq) ⟨va_cnB 3 C.2.2.2.2.2.1 (gU_C mw447) rfl rfl rfl (hK.2.1 _ (List.mem_of_getElem? (i := 0) rfl)) (C.2.2.2.2.2.1 _ (List.mem_cons_of_mem _ mw2)) (by decide +kernel) ⟨Nat.le_of_ble_eq_true rfl, Nat.le_of_ble_eq_true rfl⟩, (C.2.2.2.2.2.1 _ (List.mem_cons_of_mem _ mw446)), trivial⟩ (k_preS hK hW) rfl rfl hl.1 rfl (lv_room (Nat.le_of_ble_eq_true rfl)) dX5_isPrime_29 ⟨Nat.le_refl 0, Nat.le_refl 0⟩) (fun r2 h3 H locs hq hW => ?_)
    rw [hq.1] at hW
    have hq := hq.2
    exact k_zret rfl hq.1.1 C hW dX5_isPrime_32 ⟨rfl, hq.2⟩
  · have hq := hq.2 c1
    refine lv_iload_n hx hb dX5_isPrime_7 rfl (lv_at hl 0 rfl) ?_
    refine lv_iload_n hx hb dX5_isPrime_8 rfl (lv_at hl 1 rfl) ?_
    refine k_irem hx hb dX5_isPrime_9 hq.1 ?_
    have hq := hq.2
    refine lv_if_ne (tgt := 15) hx hb dX5_isPrime_10 (by decide) (fun c4 => ?_) (fun c4 => ?_)
    · have hq := hq.1 c4
      obtain ⟨x1_5, ex1_5⟩ : ∃ y : Int32, y = x1 + 1 := ⟨_, rfl⟩
      have hq := hq x1_5 ex1_5
      refine lv_iinc (v := x1_5) (lv' := [(1, .int x1_5), (0, .int x0)]) hx hb dX5_isPrime_15 hl (k := 1) rfl (by rw [ex1_5]; rfl) (by decide) rfl (fun ls hl => ?_)
      refine lv_goto (tgt := 2) hx hb dX5_isPrime_18 (by decide) ?_
      exact hX2 _ _ _ _ hW (lv_sub hl [1, 0] rfl) hq
    · have hq := hq.2 c4
      refine lv_iconst (v := 0) hx hb dX5_isPrime_13 (by decide) ?_
      exact k_zret rfl isZ_0.1 C hW dX5_isPrime_14 ⟨rfl, hq⟩
theorem k_X5_isPrime_2 {Q : Int32 → Prop} {x0 : Int32} {h : hp} (C : kC p s m args meth c cX5_isPrime 2 (some .boolean) RX5 wUX5_isPrime) (hK : kK G s) {x1 : Int32} {H : Heap} {locs : List Loc} {ls : Array Slot} (hW : kW SC G h (aS SC G) s H locs) (hl : lv_has ls 2 [(0, .int x0), (1, .int x1)]) (hq : w_X5_isPrime_2 Q x0 x1) : W p l e rmX5_isPrime s m args below meth c H locs 0 0 (MQ below (va_Qi (fun r9 h9 => h9 = h ∧ Q r9) (kB SC G) (aS SC G)) args s 0 0 (aS SC G)) (F0 m 2 ls []) := by
  have key := hq (fun (q : Int32) => ∀ (H : Heap) (locs : List Loc) (ls : Array Slot), kW SC G h (aS SC G) s H locs → lv_has ls 2 [(0, .int x0), (1, .int q)] → W p l e rmX5_isPrime s m args below meth c H locs 0 0 (MQ below (va_Qi (fun r9 h9 => h9 = h ∧ Q r9) (kB SC G) (aS SC G)) args s 0 0 (aS SC G)) (F0 m 2 ls []))
    (fun q hq H locs ls hW hl => k_X5_isPrime_b2 C hK (fun x1 H locs ls hW hl hI => hI H locs ls hW hl) hW hl hq)
  exact key _ _ _ hW hl
theorem k_X5_isPrime_0 {Q : Int32 → Prop} {x0 : Int32} {h : hp} (C : kC p s m args meth c cX5_isPrime 2 (some .boolean) RX5 wUX5_isPrime) (hK : kK G s) {H : Heap} {locs : List Loc} {ls : Array Slot} (hW : kW SC G h (aS SC G) s H locs) (hl : lv_has ls 2 [(0, .int x0)]) (hq : w_X5_isPrime_0 Q x0) : W p l e rmX5_isPrime s m args below meth c H locs 0 0 (MQ below (va_Qi (fun r9 h9 => h9 = h ∧ Q r9) (kB SC G) (aS SC G)) args s 0 0 (aS SC G)) (F0 m 0 ls []) := by
  have hx := C.1
  have hb := C.2.1
  unfold w_X5_isPrime_0 at hq
  refine lv_iconst (v := 2) hx hb dX5_isPrime_0 (by decide) ?_
  refine lv_istore_n (lv' := [(1, .int 2), (0, .int x0)]) hx hb dX5_isPrime_1 rfl hl (by decide) rfl (fun ls hl => ?_)
  exact k_X5_isPrime_2 C hK hW (lv_sub hl [1, 0] rfl) hq
theorem c_X5_isPrime (l : Launch) (G : wG) (h : hp) (x0 : Int32) (Q : Int32 → Prop) (hq : w_X5_isPrime x0 Q) : ctI l SC G yX5_isPrime wUX5_isPrime rmX5_isPrime h [.int x0] (fun r9 h9 => h9 = h ∧ Q r9) := by
  refine k_start (cc := cX5_isPrime) (maxL := 2) (rt := (some .boolean)) (own := RX5) (by decide +kernel) rfl rfl (Nat.le_of_ble_eq_true rfl) ?_
  intro p e s m below meth c ls C hK hW hl
  exact k_X5_isPrime_0 C hK hW hl hq
theorem k_X5_tellNumber_0 {Q : Int32 → hp → Prop} {x1 : Int32} {h : hp} (C : kC p s m args meth c cX5_tellNumber 3 (some .boolean) RX5 wUX5_tellNumber) (hK : kK G s) {H : Heap} {locs : List Loc} {ls : Array Slot} (hW : kW SC G h (aS SC G) s H locs) (hl : lv_has ls 3 [(0, .ref (G.2.2 2)), (1, .int x1)]) (hq : w_X5_tellNumber_0 Q x1 h) : W p l e rmX5_tellNumber s m args below meth c H locs 0 0 (MQ below (va_Qi Q (kB SC G) (aS SC G)) args s 0 0 (aS SC G)) (F0 m 0 ls []) := by
  have hx := C.1
  have hb := C.2.1
  unfold w_X5_tellNumber_0 at hq
  refine lv_aload_n hx hb dX5_tellNumber_0 rfl (lv_at hl 0 rfl) ?_
  refine lv_iconst (v := 1) hx hb dX5_tellNumber_1 (by decide) ?_
  refine k_cl hW (va_runV (As := [.int 1]) (rest := []) (k_fix C) (c_X5_taken l G h 1 _ hq) (cwV 1 C.2.2.2.2.2.1 (gU_V mw425 mw426 mw427 mw19 mw428) rfl rfl rfl (by decide +kernel) ⟨Nat.le_of_ble_eq_true rfl, Nat.le_of_ble_eq_true rfl⟩) (k_preV hK hW (shC_lt (rfl : shC 2 = 5) (by decide)) (ceC_5 (rfl : shC 2 = 5)) (q := (RX5, TX5, 7)) rfl) rfl rfl hl.1 rfl (lv_room (Nat.le_of_ble_eq_true rfl)) dX5_tellNumber_2 ⟨Nat.le_refl 0, Nat.le_refl 0⟩) (fun r1 h2 H locs hq hW => ?_)
  rw [hq.1] at hW
  have hq := hq.2
  refine lv_l2i (v := r1.toInt32) hx hb dX5_tellNumber_5 rfl ?_
  refine lv_topi (fun x2_3 ex2_3 => ?_)
  have hq := hq x2_3 ex2_3
  refine lv_istore_n (lv' := [(2, .int x2_3), (0, .ref (G.2.2 2)), (1, .int x1)]) hx hb dX5_tellNumber_6 rfl hl (by decide) rfl (fun ls hl => ?_)
  refine lv_iload_n hx hb dX5_tellNumber_7 rfl (lv_at hl 2 rfl) ?_
  refine lv_sipush (v := 261) hx hb dX5_tellNumber_8 (by decide) ?_
  refine lv_icmp_ne (tgt := 38) hx hb dX5_tellNumber_11 (by decide) (fun c4 => ?_) (fun c4 => ?_)
  · have hq := hq.1 c4
    refine lv_iload_n hx hb dX5_tellNumber_38 rfl (lv_at hl 2 rfl) ?_
    refine lv_sipush (v := 263) hx hb dX5_tellNumber_39 (by decide) ?_
    refine lv_icmp_ne (tgt := 65) hx hb dX5_tellNumber_42 (by decide) (fun c5 => ?_) (fun c5 => ?_)
    · have hq := hq.1 c5
      refine lv_iload_n hx hb dX5_tellNumber_65 rfl (lv_at hl 0 rfl) ?_
      refine k_ci hW (va_runS (As := [.int x2_3]) (rest := []) (k_fix C) (c_X5_isPrime l G h x2_3 _ hq) (va_cwS 1 C.2.2.2.2.2.1 (gU_S mw585 mw586 mw19 mw587) rfl rfl rfl (by decide +kernel) ⟨Nat.le_of_ble_eq_true rfl, Nat.le_of_ble_eq_true rfl⟩) (k_preS hK hW) rfl rfl hl.1 rfl (lv_room (Nat.le_of_ble_eq_true rfl)) dX5_tellNumber_66 ⟨Nat.le_refl 0, Nat.le_refl 0⟩) (fun r6 h7 H locs hq hW => ?_)
      rw [hq.1] at hW
      have hq := hq.2
      refine lv_if_eq (tgt := 86) hx hb dX5_tellNumber_69 (by decide) (fun c8 => ?_) (fun c8 => ?_)
      · have hq := hq.1 c8
        refine lv_aload_n hx hb dX5_tellNumber_86 rfl (lv_at hl 1 rfl) ?_
        refine lv_iconst (v := 5) hx hb dX5_tellNumber_87 (by decide) ?_
        refine lv_iconst (v := 1) hx hb dX5_tellNumber_88 (by decide) ?_
        refine k_cv hW (va_runV (As := [.int 5, .int 1]) (rest := []) (k_fix C) (c_X5_note l G h 5 1 _ hq) (cwV 2 C.2.2.2.2.2.1 (gU_V mw434 mw435 mw436 mw19 mw437) rfl rfl rfl (by decide +kernel) ⟨Nat.le_of_ble_eq_true rfl, Nat.le_of_ble_eq_true rfl⟩) (k_preV hK hW (shC_lt (rfl : shC 2 = 5) (by decide)) (ceC_5 (rfl : shC 2 = 5)) (q := (RX5, TX5, 7)) rfl) rfl rfl hl.1 rfl (lv_room (Nat.le_of_ble_eq_true rfl)) dX5_tellNumber_89 ⟨Nat.le_refl 0, Nat.le_refl 0⟩) (fun h9 H locs hq hW => ?_)
        refine lv_iconst (v := 1) hx hb dX5_tellNumber_92 (by decide) ?_
        exact k_zret rfl isZ_1.1 C hW dX5_tellNumber_93 hq
      · have hq := hq.2 c8
        refine lv_aload_n hx hb dX5_tellNumber_72 rfl (lv_at hl 1 rfl) ?_
        refine gt5_4 C hK hW (rfl : shC 2 = 5) (List.mem_cons_of_mem _ mw48) (fun _ h9 => List.mem_cons_of_mem _ (inU_wsX50 _ h9)) dX5_tellNumber_73 ?_
        have hr10 := hq.1
        have hq := hq.2
        refine gt7_5 C hK hW hr10 (List.mem_cons_of_mem _ mw555) (fun _ h9 => List.mem_cons_of_mem _ (inU_wsX70 _ h9)) dX5_tellNumber_76 ?_
        refine lv_iload_n hx hb dX5_tellNumber_79 rfl (lv_at hl 0 rfl) ?_
        refine pt6_1 C hK hW (sl7_5 hr10) (List.mem_cons_of_mem _ mw576) (fun _ h9 => List.mem_cons_of_mem _ (inU_wsX60 _ h9)) dX5_tellNumber_80 (fun h11 H locs eh11 hW => ?_)
        have hq := hq h11 eh11
        refine lv_goto (tgt := 92) hx hb dX5_tellNumber_83 (by decide) ?_
        refine lv_iconst (v := 1) hx hb dX5_tellNumber_92 (by decide) ?_
        exact k_zret rfl isZ_1.1 C hW dX5_tellNumber_93 hq
    · have hq := hq.2 c5
      refine lv_aload_n hx hb dX5_tellNumber_45 rfl (lv_at hl 1 rfl) ?_
      refine lv_iconst (v := 1) hx hb dX5_tellNumber_46 (by decide) ?_
      refine lv_iconst (v := 0) hx hb dX5_tellNumber_47 (by decide) ?_
      refine lv_bipush (v := 9) hx hb dX5_tellNumber_48 (by decide) ?_
      refine k_ci hW (va_runV (As := [.int 1, .int 0, .int 9]) (rest := []) (k_fix C) (c_X5_takenWithin l G h 1 0 9 _ hq) (cwV 3 C.2.2.2.2.2.1 (gU_V mw442 mw443 mw444 mw19 mw445) rfl rfl rfl (by decide +kernel) ⟨Nat.le_of_ble_eq_true rfl, Nat.le_of_ble_eq_true rfl⟩) (k_preV hK hW (shC_lt (rfl : shC 2 = 5) (by decide)) (ceC_5 (rfl : shC 2 = 5)) (q := (RX5, TX5, 7)) rfl) rfl rfl hl.1 rfl (lv_room (Nat.le_of_ble_eq_true rfl)) dX5_tellNumber_50 ⟨Nat.le_refl 0, Nat.le_refl 0⟩) (fun r13 h12 H locs hq hW => ?_)
      refine lv_pop hx hb dX5_tellNumber_53 rfl ?_
      refine lv_aload_n hx hb dX5_tellNumber_54 rfl (lv_at hl 1 rfl) ?_
      refine gt5_4 C hK hW (rfl : shC 2 = 5) (List.mem_cons_of_mem _ mw48) (fun _ h9 => List.mem_cons_of_mem _ (inU_wsX50 _ h9)) dX5_tellNumber_55 ?_
      have hr14 := hq.1
      have hq := hq.2
      refine lv_iload_n hx hb dX5_tellNumber_58 rfl (lv_at hl 0 rfl) ?_
      refine pt7_9 C hK hW hr14 (List.mem_cons_of_mem _ mw575) (fun _ h9 => List.mem_cons_of_mem _ (inU_wsX70 _ h9)) dX5_tellNumber_59 (fun h15 H locs eh15 hW => ?_)
      have hq := hq h15 eh15
      refine lv_goto (tgt := 92) hx hb dX5_tellNumber_62 (by decide) ?_
      refine lv_iconst (v := 1) hx hb dX5_tellNumber_92 (by decide) ?_
      exact k_zret rfl isZ_1.1 C hW dX5_tellNumber_93 hq
  · have hq := hq.2 c4
    refine lv_aload_n hx hb dX5_tellNumber_14 rfl (lv_at hl 1 rfl) ?_
    refine lv_iconst (v := 1) hx hb dX5_tellNumber_15 (by decide) ?_
    refine lv_iconst (v := 0) hx hb dX5_tellNumber_16 (by decide) ?_
    refine lv_sipush (v := 999) hx hb dX5_tellNumber_17 (by decide) ?_
    refine k_ci hW (va_runV (As := [.int 1, .int 0, .int 999]) (rest := []) (k_fix C) (c_X5_takenWithin l G h 1 0 999 _ hq) (cwV 3 C.2.2.2.2.2.1 (gU_V mw442 mw443 mw444 mw19 mw445) rfl rfl rfl (by decide +kernel) ⟨Nat.le_of_ble_eq_true rfl, Nat.le_of_ble_eq_true rfl⟩) (k_preV hK hW (shC_lt (rfl : shC 2 = 5) (by decide)) (ceC_5 (rfl : shC 2 = 5)) (q := (RX5, TX5, 7)) rfl) rfl rfl hl.1 rfl (lv_room (Nat.le_of_ble_eq_true rfl)) dX5_tellNumber_20 ⟨Nat.le_refl 0, Nat.le_refl 0⟩) (fun r17 h16 H locs hq hW => ?_)
    refine lv_pop hx hb dX5_tellNumber_23 rfl ?_
    refine lv_aload_n hx hb dX5_tellNumber_24 rfl (lv_at hl 1 rfl) ?_
    refine gt5_4 C hK hW (rfl : shC 2 = 5) (List.mem_cons_of_mem _ mw48) (fun _ h9 => List.mem_cons_of_mem _ (inU_wsX50 _ h9)) dX5_tellNumber_25 ?_
    have hr18 := hq.1
    have hq := hq.2
    refine gt7_6 C hK hW hr18 (List.mem_cons_of_mem _ mw574) (fun _ h9 => List.mem_cons_of_mem _ (inU_wsX70 _ h9)) dX5_tellNumber_28 ?_
    refine lv_iload_n hx hb dX5_tellNumber_31 rfl (lv_at hl 0 rfl) ?_
    refine k_cv hW (va_runV (As := [.int x2_3]) (rest := []) (k_fix C) (c_X0_add l G (sl7_6 hr18) h16 x2_3 _ hq) (cwV 1 C.2.2.2.2.2.1 (gU_V mw577 mw578 mw579 mw77 mw580) rfl rfl rfl (by decide +kernel) ⟨Nat.le_of_ble_eq_true rfl, Nat.le_of_ble_eq_true rfl⟩) (k_preV hK hW (shC_lt (sl7_6 hr18) (by decide)) (ceC_0 (sl7_6 hr18)) (q := (RX0, TX0, 3)) rfl) rfl rfl hl.1 rfl (lv_room (Nat.le_of_ble_eq_true rfl)) dX5_tellNumber_32 ⟨Nat.le_refl 0, Nat.le_refl 0⟩) (fun h19 H locs hq hW => ?_)
    refine lv_goto (tgt := 92) hx hb dX5_tellNumber_35 (by decide) ?_
    refine lv_iconst (v := 1) hx hb dX5_tellNumber_92 (by decide) ?_
    exact k_zret rfl isZ_1.1 C hW dX5_tellNumber_93 hq
theorem c_X5_tellNumber (l : Launch) (G : wG) (h : hp) (x1 : Int32) (Q : Int32 → hp → Prop) (hq : w_X5_tellNumber h x1 Q) : ctI l SC G yX5_tellNumber wUX5_tellNumber rmX5_tellNumber h [.ref (G.2.2 2), .int x1] Q := by
  refine k_start (cc := cX5_tellNumber) (maxL := 3) (rt := (some .boolean)) (own := RX5) (by decide +kernel) rfl rfl (Nat.le_of_ble_eq_true rfl) ?_
  intro p e s m below meth c ls C hK hW hl
  exact k_X5_tellNumber_0 C hK hW hl hq
theorem k_X5_readTell_19 {Q : Int32 → hp → Prop} {h : hp} (C : kC p s m args meth c cX5_readTell 2 (some .boolean) RX5 wUX5_readTell) (hK : kK G s) {H : Heap} {locs : List Loc} {ls : Array Slot} (hW : kW SC G h (aS SC G) s H locs) (hl : lv_has ls 2 [(0, .ref (G.2.2 2))]) (hq : w_X5_readTell_19 Q h) : W p l e rmX5_readTell s m args below meth c H locs 0 0 (MQ below (va_Qi Q (kB SC G) (aS SC G)) args s 0 0 (aS SC G)) (F0 m 19 ls []) := by
  have hx := C.1
  have hb := C.2.1
  unfold w_X5_readTell_19 at hq
  refine lv_aload_n hx hb dX5_readTell_19 rfl (lv_at hl 0 rfl) ?_
  refine lv_iconst (v := 1) hx hb dX5_readTell_20 (by decide) ?_
  refine k_ci hW (va_runV (As := [.int 1]) (rest := []) (k_fix C) (c_X5_stop l G h 1 _ hq) (cwV 1 C.2.2.2.2.2.1 (gU_V mw406 mw407 mw408 mw19 mw409) rfl rfl rfl (by decide +kernel) ⟨Nat.le_of_ble_eq_true rfl, Nat.le_of_ble_eq_true rfl⟩) (k_preV hK hW (shC_lt (rfl : shC 2 = 5) (by decide)) (ceC_5 (rfl : shC 2 = 5)) (q := (RX5, TX5, 7)) rfl) rfl rfl hl.1 rfl (lv_room (Nat.le_of_ble_eq_true rfl)) dX5_readTell_21 ⟨Nat.le_refl 0, Nat.le_refl 0⟩) (fun r105 h104 H locs hq hW => ?_)
  exact k_zret rfl hq.1.1 C hW dX5_readTell_24 hq.2
theorem k_X5_readTell_0 {Q : Int32 → hp → Prop} {h : hp} (C : kC p s m args meth c cX5_readTell 2 (some .boolean) RX5 wUX5_readTell) (hK : kK G s) {H : Heap} {locs : List Loc} {ls : Array Slot} (hW : kW SC G h (aS SC G) s H locs) (hl : lv_has ls 2 [(0, .ref (G.2.2 2))]) (hq : w_X5_readTell_0 Q h) : W p l e rmX5_readTell s m args below meth c H locs 0 0 (MQ below (va_Qi Q (kB SC G) (aS SC G)) args s 0 0 (aS SC G)) (F0 m 0 ls []) := by
  have hx := C.1
  have hb := C.2.1
  unfold w_X5_readTell_0 at hq
  refine lv_aload_n hx hb dX5_readTell_0 rfl (lv_at hl 0 rfl) ?_
  refine k_ci hW (va_runV (As := []) (rest := []) (k_fix C) (c_X5_kind l G h _ hq) (cwV 0 C.2.2.2.2.2.1 (gU_V mw397 mw398 mw399 mw19 mw400) rfl rfl rfl (by decide +kernel) ⟨Nat.le_of_ble_eq_true rfl, Nat.le_of_ble_eq_true rfl⟩) (k_preV hK hW (shC_lt (rfl : shC 2 = 5) (by decide)) (ceC_5 (rfl : shC 2 = 5)) (q := (RX5, TX5, 7)) rfl) rfl rfl hl.1 rfl (lv_room (Nat.le_of_ble_eq_true rfl)) dX5_readTell_1 ⟨Nat.le_refl 0, Nat.le_refl 0⟩) (fun r1 h2 H locs hq hW => ?_)
  rw [hq.1] at hW
  have hq := hq.2
  refine lv_istore_n (lv' := [(1, .int r1), (0, .ref (G.2.2 2))]) hx hb dX5_readTell_4 rfl hl (by decide) rfl (fun ls hl => ?_)
  refine lv_iload_n hx hb dX5_readTell_5 rfl (lv_at hl 0 rfl) ?_
  refine lv_sipush (v := 256) hx hb dX5_readTell_6 (by decide) ?_
  refine lv_icmp_lt (tgt := 19) hx hb dX5_readTell_9 (by decide) (fun c3 => ?_) (fun c3 => ?_)
  · have hq := hq.1 c3
    exact k_X5_readTell_19 C hK hW (lv_sub hl [1] rfl) hq
  · have hq := hq.2 c3
    refine lv_iload_n hx hb dX5_readTell_12 rfl (lv_at hl 0 rfl) ?_
    refine lv_sipush (v := 263) hx hb dX5_readTell_13 (by decide) ?_
    refine lv_icmp_le (tgt := 25) hx hb dX5_readTell_16 (by decide) (fun c4 => ?_) (fun c4 => ?_)
    · have hq := hq.1 c4
      refine lv_aload_n hx hb dX5_readTell_25 rfl (lv_at hl 1 rfl) ?_
      refine gt5_4 C hK hW (rfl : shC 2 = 5) (List.mem_cons_of_mem _ mw48) (fun _ h9 => List.mem_cons_of_mem _ (inU_wsX50 _ h9)) dX5_readTell_26 ?_
      have hr5 := hq.1
      have hq := hq.2
      refine lv_iload_n hx hb dX5_readTell_29 rfl (lv_at hl 0 rfl) ?_
      refine k_ci hW (va_runV (As := [.int r1]) (rest := []) (k_fix C) (c_X7_isFullOf l G hr5 h r1 _ hq) (cwV 1 C.2.2.2.2.2.1 (gU_V mw411 mw412 mw413 mw23 mw414) rfl rfl rfl (by decide +kernel) ⟨Nat.le_of_ble_eq_true rfl, Nat.le_of_ble_eq_true rfl⟩) (k_preV hK hW (shC_lt hr5 (by decide)) (ceC_7 hr5) (q := (RX7, TX7, 10)) rfl) rfl rfl hl.1 rfl (lv_room (Nat.le_of_ble_eq_true rfl)) dX5_readTell_30 ⟨Nat.le_refl 0, Nat.le_refl 0⟩) (fun r6 h7 H locs hq hW => ?_)
      rw [hq.1] at hW
      have hq := hq.2
      refine lv_if_eq (tgt := 42) hx hb dX5_readTell_33 (by decide) (fun c8 => ?_) (fun c8 => ?_)
      · have hq := hq.1 c8
        refine lv_aload_n hx hb dX5_readTell_42 rfl (lv_at hl 1 rfl) ?_
        refine lv_iload_n hx hb dX5_readTell_43 rfl (lv_at hl 0 rfl) ?_
        refine k_ci hW (va_runV (As := [.int r1]) (rest := []) (k_fix C) (c_X5_take l G h r1 _ hq) (cwV 1 C.2.2.2.2.2.1 (gU_V mw417 mw418 mw419 mw19 mw420) rfl rfl rfl (by decide +kernel) ⟨Nat.le_of_ble_eq_true rfl, Nat.le_of_ble_eq_true rfl⟩) (k_preV hK hW (shC_lt (rfl : shC 2 = 5) (by decide)) (ceC_5 (rfl : shC 2 = 5)) (q := (RX5, TX5, 7)) rfl) rfl rfl hl.1 rfl (lv_room (Nat.le_of_ble_eq_true rfl)) dX5_readTell_44 ⟨Nat.le_refl 0, Nat.le_refl 0⟩) (fun r10 h9 H locs hq hW => ?_)
        refine lv_if_ne (tgt := 52) hx hb dX5_readTell_47 (by decide) (fun c11 => ?_) (fun c11 => ?_)
        · have hq := hq.1 c11
          refine lv_iload_n hx hb dX5_readTell_52 rfl (lv_at hl 0 rfl) ?_
          refine lv_topi (fun sw12 esw12 => ?_)
          have hq := hq sw12 esw12
          by_cases c13 : sw12 = 256
          · have hq := hq.1 c13
            refine k_top c13 ?_
            refine lv_tableIn (tgt := 96) (off := 43) hx hb dX5_readTell_53 (by decide) (by decide) (by decide) (by decide) ?_
            refine lv_aload_n hx hb dX5_readTell_96 rfl (lv_at hl 1 rfl) ?_
            refine k_ci hW (va_runV (As := []) (rest := []) (k_fix C) (c_X5_takeName l G h9 _ hq) (cwV 0 C.2.2.2.2.2.1 (gU_V mw421 mw422 mw423 mw19 mw424) rfl rfl rfl (by decide +kernel) ⟨Nat.le_of_ble_eq_true rfl, Nat.le_of_ble_eq_true rfl⟩) (k_preV hK hW (shC_lt (rfl : shC 2 = 5) (by decide)) (ceC_5 (rfl : shC 2 = 5)) (q := (RX5, TX5, 7)) rfl) rfl rfl hl.1 rfl (lv_room (Nat.le_of_ble_eq_true rfl)) dX5_readTell_97 ⟨Nat.le_refl 0, Nat.le_refl 0⟩) (fun r15 h14 H locs hq hW => ?_)
            refine lv_if_eq (tgt := 136) hx hb dX5_readTell_100 (by decide) (fun c16 => ?_) (fun c16 => ?_)
            · have hq := hq.1 c16
              refine lv_iconst (v := 0) hx hb dX5_readTell_136 (by decide) ?_
              exact k_zret rfl isZ_0.1 C hW dX5_readTell_137 hq
            · have hq := hq.2 c16
              refine lv_aload_n hx hb dX5_readTell_103 rfl (lv_at hl 1 rfl) ?_
              refine lv_iconst (v := 3) hx hb dX5_readTell_104 (by decide) ?_
              refine k_ci hW (va_runV (As := [.int 3]) (rest := []) (k_fix C) (c_X5_take l G h14 3 _ hq) (cwV 1 C.2.2.2.2.2.1 (gU_V mw417 mw418 mw419 mw19 mw420) rfl rfl rfl (by decide +kernel) ⟨Nat.le_of_ble_eq_true rfl, Nat.le_of_ble_eq_true rfl⟩) (k_preV hK hW (shC_lt (rfl : shC 2 = 5) (by decide)) (ceC_5 (rfl : shC 2 = 5)) (q := (RX5, TX5, 7)) rfl) rfl rfl hl.1 rfl (lv_room (Nat.le_of_ble_eq_true rfl)) dX5_readTell_105 ⟨Nat.le_refl 0, Nat.le_refl 0⟩) (fun r18 h17 H locs hq hW => ?_)
              refine lv_if_eq (tgt := 136) hx hb dX5_readTell_108 (by decide) (fun c19 => ?_) (fun c19 => ?_)
              · have hq := hq.1 c19
                refine lv_iconst (v := 0) hx hb dX5_readTell_136 (by decide) ?_
                exact k_zret rfl isZ_0.1 C hW dX5_readTell_137 hq
              · have hq := hq.2 c19
                refine lv_aload_n hx hb dX5_readTell_111 rfl (lv_at hl 1 rfl) ?_
                refine k_ci hW (va_runV (As := []) (rest := []) (k_fix C) (c_X5_noteSize l G h17 _ hq) (cwV 0 C.2.2.2.2.2.1 (gU_V mw438 mw439 mw440 mw19 mw441) rfl rfl rfl (by decide +kernel) ⟨Nat.le_of_ble_eq_true rfl, Nat.le_of_ble_eq_true rfl⟩) (k_preV hK hW (shC_lt (rfl : shC 2 = 5) (by decide)) (ceC_5 (rfl : shC 2 = 5)) (q := (RX5, TX5, 7)) rfl) rfl rfl hl.1 rfl (lv_room (Nat.le_of_ble_eq_true rfl)) dX5_readTell_112 ⟨Nat.le_refl 0, Nat.le_refl 0⟩) (fun r21 h20 H locs hq hW => ?_)
                refine lv_if_eq (tgt := 136) hx hb dX5_readTell_115 (by decide) (fun c22 => ?_) (fun c22 => ?_)
                · have hq := hq.1 c22
                  refine lv_iconst (v := 0) hx hb dX5_readTell_136 (by decide) ?_
                  exact k_zret rfl isZ_0.1 C hW dX5_readTell_137 hq
                · have hq := hq.2 c22
                  refine lv_aload_n hx hb dX5_readTell_118 rfl (lv_at hl 1 rfl) ?_
                  refine k_ci hW (va_runV (As := []) (rest := []) (k_fix C) (c_X5_readLaw l G h20 _ hq) (cwV 0 C.2.2.2.2.2.1 (gU_V mw448 mw449 mw450 mw19 mw451) rfl rfl rfl (by decide +kernel) ⟨Nat.le_of_ble_eq_true rfl, Nat.le_of_ble_eq_true rfl⟩) (k_preV hK hW (shC_lt (rfl : shC 2 = 5) (by decide)) (ceC_5 (rfl : shC 2 = 5)) (q := (RX5, TX5, 7)) rfl) rfl rfl hl.1 rfl (lv_room (Nat.le_of_ble_eq_true rfl)) dX5_readTell_119 ⟨Nat.le_refl 0, Nat.le_refl 0⟩) (fun r24 h23 H locs hq hW => ?_)
                  refine lv_if_eq (tgt := 136) hx hb dX5_readTell_122 (by decide) (fun c25 => ?_) (fun c25 => ?_)
                  · have hq := hq.1 c25
                    refine lv_iconst (v := 0) hx hb dX5_readTell_136 (by decide) ?_
                    exact k_zret rfl isZ_0.1 C hW dX5_readTell_137 hq
                  · have hq := hq.2 c25
                    refine lv_aload_n hx hb dX5_readTell_125 rfl (lv_at hl 1 rfl) ?_
                    refine k_ci hW (va_runV (As := []) (rest := []) (k_fix C) (c_X5_tellRow l G h23 _ hq) (cwV 0 C.2.2.2.2.2.1 (gU_V mw499 mw500 mw501 mw19 mw502) rfl rfl rfl (by decide +kernel) ⟨Nat.le_of_ble_eq_true rfl, Nat.le_of_ble_eq_true rfl⟩) (k_preV hK hW (shC_lt (rfl : shC 2 = 5) (by decide)) (ceC_5 (rfl : shC 2 = 5)) (q := (RX5, TX5, 7)) rfl) rfl rfl hl.1 rfl (lv_room (Nat.le_of_ble_eq_true rfl)) dX5_readTell_126 ⟨Nat.le_refl 0, Nat.le_refl 0⟩) (fun r27 h26 H locs hq hW => ?_)
                    refine lv_if_eq (tgt := 136) hx hb dX5_readTell_129 (by decide) (fun c28 => ?_) (fun c28 => ?_)
                    · have hq := hq.1 c28
                      refine lv_iconst (v := 0) hx hb dX5_readTell_136 (by decide) ?_
                      exact k_zret rfl isZ_0.1 C hW dX5_readTell_137 hq
                    · have hq := hq.2 c28
                      refine lv_iconst (v := 1) hx hb dX5_readTell_132 (by decide) ?_
                      refine lv_goto (tgt := 137) hx hb dX5_readTell_133 (by decide) ?_
                      exact k_zret rfl isZ_1.1 C hW dX5_readTell_137 hq
          have hq := hq.2
          by_cases c29 : sw12 = 257
          · have hq := hq.1 c29
            refine k_top c29 ?_
            refine lv_tableIn (tgt := 138) (off := 85) hx hb dX5_readTell_53 (by decide) (by decide) (by decide) (by decide) ?_
            refine lv_aload_n hx hb dX5_readTell_138 rfl (lv_at hl 1 rfl) ?_
            refine k_ci hW (va_runV (As := []) (rest := []) (k_fix C) (c_X5_takeName l G h9 _ hq) (cwV 0 C.2.2.2.2.2.1 (gU_V mw421 mw422 mw423 mw19 mw424) rfl rfl rfl (by decide +kernel) ⟨Nat.le_of_ble_eq_true rfl, Nat.le_of_ble_eq_true rfl⟩) (k_preV hK hW (shC_lt (rfl : shC 2 = 5) (by decide)) (ceC_5 (rfl : shC 2 = 5)) (q := (RX5, TX5, 7)) rfl) rfl rfl hl.1 rfl (lv_room (Nat.le_of_ble_eq_true rfl)) dX5_readTell_139 ⟨Nat.le_refl 0, Nat.le_refl 0⟩) (fun r31 h30 H locs hq hW => ?_)
            refine lv_if_eq (tgt := 165) hx hb dX5_readTell_142 (by decide) (fun c32 => ?_) (fun c32 => ?_)
            · have hq := hq.1 c32
              refine lv_iconst (v := 0) hx hb dX5_readTell_165 (by decide) ?_
              exact k_zret rfl isZ_0.1 C hW dX5_readTell_166 hq
            · have hq := hq.2 c32
              refine lv_aload_n hx hb dX5_readTell_145 rfl (lv_at hl 1 rfl) ?_
              refine k_ci hW (va_runV (As := []) (rest := []) (k_fix C) (c_X5_readList l G h30 _ hq) (cwV 0 C.2.2.2.2.2.1 (gU_V mw534 mw535 mw536 mw19 mw537) rfl rfl rfl (by decide +kernel) ⟨Nat.le_of_ble_eq_true rfl, Nat.le_of_ble_eq_true rfl⟩) (k_preV hK hW (shC_lt (rfl : shC 2 = 5) (by decide)) (ceC_5 (rfl : shC 2 = 5)) (q := (RX5, TX5, 7)) rfl) rfl rfl hl.1 rfl (lv_room (Nat.le_of_ble_eq_true rfl)) dX5_readTell_146 ⟨Nat.le_refl 0, Nat.le_refl 0⟩) (fun r34 h33 H locs hq hW => ?_)
              refine lv_if_eq (tgt := 165) hx hb dX5_readTell_149 (by decide) (fun c35 => ?_) (fun c35 => ?_)
              · have hq := hq.1 c35
                refine lv_iconst (v := 0) hx hb dX5_readTell_165 (by decide) ?_
                exact k_zret rfl isZ_0.1 C hW dX5_readTell_166 hq
              · have hq := hq.2 c35
                refine lv_aload_n hx hb dX5_readTell_152 rfl (lv_at hl 1 rfl) ?_
                refine lv_bipush (v := 59) hx hb dX5_readTell_153 (by decide) ?_
                refine k_ci hW (va_runV (As := [.int 59]) (rest := []) (k_fix C) (c_X5_take l G h33 59 _ hq) (cwV 1 C.2.2.2.2.2.1 (gU_V mw417 mw418 mw419 mw19 mw420) rfl rfl rfl (by decide +kernel) ⟨Nat.le_of_ble_eq_true rfl, Nat.le_of_ble_eq_true rfl⟩) (k_preV hK hW (shC_lt (rfl : shC 2 = 5) (by decide)) (ceC_5 (rfl : shC 2 = 5)) (q := (RX5, TX5, 7)) rfl) rfl rfl hl.1 rfl (lv_room (Nat.le_of_ble_eq_true rfl)) dX5_readTell_155 ⟨Nat.le_refl 0, Nat.le_refl 0⟩) (fun r37 h36 H locs hq hW => ?_)
                refine lv_if_eq (tgt := 165) hx hb dX5_readTell_158 (by decide) (fun c38 => ?_) (fun c38 => ?_)
                · have hq := hq.1 c38
                  refine lv_iconst (v := 0) hx hb dX5_readTell_165 (by decide) ?_
                  exact k_zret rfl isZ_0.1 C hW dX5_readTell_166 hq
                · have hq := hq.2 c38
                  refine lv_iconst (v := 1) hx hb dX5_readTell_161 (by decide) ?_
                  refine lv_goto (tgt := 166) hx hb dX5_readTell_162 (by decide) ?_
                  exact k_zret rfl isZ_1.1 C hW dX5_readTell_166 hq
          have hq := hq.2
          by_cases c39 : sw12 = 258
          · have hq := hq.1 c39
            refine k_top c39 ?_
            refine lv_tableIn (tgt := 167) (off := 114) hx hb dX5_readTell_53 (by decide) (by decide) (by decide) (by decide) ?_
            refine lv_aload_n hx hb dX5_readTell_167 rfl (lv_at hl 1 rfl) ?_
            refine k_ci hW (va_runV (As := []) (rest := []) (k_fix C) (c_X5_readLaw l G h9 _ hq) (cwV 0 C.2.2.2.2.2.1 (gU_V mw448 mw449 mw450 mw19 mw451) rfl rfl rfl (by decide +kernel) ⟨Nat.le_of_ble_eq_true rfl, Nat.le_of_ble_eq_true rfl⟩) (k_preV hK hW (shC_lt (rfl : shC 2 = 5) (by decide)) (ceC_5 (rfl : shC 2 = 5)) (q := (RX5, TX5, 7)) rfl) rfl rfl hl.1 rfl (lv_room (Nat.le_of_ble_eq_true rfl)) dX5_readTell_168 ⟨Nat.le_refl 0, Nat.le_refl 0⟩) (fun r41 h40 H locs hq hW => ?_)
            refine lv_if_eq (tgt := 185) hx hb dX5_readTell_171 (by decide) (fun c42 => ?_) (fun c42 => ?_)
            · have hq := hq.1 c42
              refine lv_iconst (v := 0) hx hb dX5_readTell_185 (by decide) ?_
              exact k_zret rfl isZ_0.1 C hW dX5_readTell_186 hq
            · have hq := hq.2 c42
              refine lv_aload_n hx hb dX5_readTell_174 rfl (lv_at hl 1 rfl) ?_
              refine k_ci hW (va_runV (As := []) (rest := []) (k_fix C) (c_X5_tellAsk l G h40 _ hq) (cwV 0 C.2.2.2.2.2.1 (gU_V mw538 mw539 mw540 mw19 mw541) rfl rfl rfl (by decide +kernel) ⟨Nat.le_of_ble_eq_true rfl, Nat.le_of_ble_eq_true rfl⟩) (k_preV hK hW (shC_lt (rfl : shC 2 = 5) (by decide)) (ceC_5 (rfl : shC 2 = 5)) (q := (RX5, TX5, 7)) rfl) rfl rfl hl.1 rfl (lv_room (Nat.le_of_ble_eq_true rfl)) dX5_readTell_175 ⟨Nat.le_refl 0, Nat.le_refl 0⟩) (fun r44 h43 H locs hq hW => ?_)
              refine lv_if_eq (tgt := 185) hx hb dX5_readTell_178 (by decide) (fun c45 => ?_) (fun c45 => ?_)
              · have hq := hq.1 c45
                refine lv_iconst (v := 0) hx hb dX5_readTell_185 (by decide) ?_
                exact k_zret rfl isZ_0.1 C hW dX5_readTell_186 hq
              · have hq := hq.2 c45
                refine lv_iconst (v := 1) hx hb dX5_readTell_181 (by decide) ?_
                refine lv_goto (tgt := 186) hx hb dX5_readTell_182 (by decide) ?_
                exact k_zret rfl isZ_1.1 C hW dX5_readTell_186 hq
          have hq := hq.2
          by_cases c46 : sw12 = 259
          · have hq := hq.1 c46
            refine k_top c46 ?_
            refine lv_tableIn (tgt := 263) (off := 210) hx hb dX5_readTell_53 (by decide) (by decide) (by decide) (by decide) ?_
            refine lv_aload_n hx hb dX5_readTell_263 rfl (lv_at hl 1 rfl) ?_
            refine lv_iconst (v := 3) hx hb dX5_readTell_264 (by decide) ?_
            refine k_ci hW (va_runV (As := [.int 3]) (rest := []) (k_fix C) (c_X5_take l G h9 3 _ hq) (cwV 1 C.2.2.2.2.2.1 (gU_V mw417 mw418 mw419 mw19 mw420) rfl rfl rfl (by decide +kernel) ⟨Nat.le_of_ble_eq_true rfl, Nat.le_of_ble_eq_true rfl⟩) (k_preV hK hW (shC_lt (rfl : shC 2 = 5) (by decide)) (ceC_5 (rfl : shC 2 = 5)) (q := (RX5, TX5, 7)) rfl) rfl rfl hl.1 rfl (lv_room (Nat.le_of_ble_eq_true rfl)) dX5_readTell_265 ⟨Nat.le_refl 0, Nat.le_refl 0⟩) (fun r48 h47 H locs hq hW => ?_)
            refine lv_if_eq (tgt := 292) hx hb dX5_readTell_268 (by decide) (fun c49 => ?_) (fun c49 => ?_)
            · have hq := hq.1 c49
              refine lv_iconst (v := 0) hx hb dX5_readTell_292 (by decide) ?_
              exact k_zret rfl isZ_0.1 C hW dX5_readTell_293 hq
            · have hq := hq.2 c49
              refine lv_aload_n hx hb dX5_readTell_271 rfl (lv_at hl 1 rfl) ?_
              refine lv_iload_n hx hb dX5_readTell_272 rfl (lv_at hl 0 rfl) ?_
              refine k_ci hW (va_runV (As := [.int r1]) (rest := []) (k_fix C) (c_X5_tellNumber l G h47 r1 _ hq) (cwV 1 C.2.2.2.2.2.1 (gU_V mw570 mw571 mw572 mw19 mw573) rfl rfl rfl (by decide +kernel) ⟨Nat.le_of_ble_eq_true rfl, Nat.le_of_ble_eq_true rfl⟩) (k_preV hK hW (shC_lt (rfl : shC 2 = 5) (by decide)) (ceC_5 (rfl : shC 2 = 5)) (q := (RX5, TX5, 7)) rfl) rfl rfl hl.1 rfl (lv_room (Nat.le_of_ble_eq_true rfl)) dX5_readTell_273 ⟨Nat.le_refl 0, Nat.le_refl 0⟩) (fun r51 h50 H locs hq hW => ?_)
              refine lv_if_eq (tgt := 292) hx hb dX5_readTell_276 (by decide) (fun c52 => ?_) (fun c52 => ?_)
              · have hq := hq.1 c52
                refine lv_iconst (v := 0) hx hb dX5_readTell_292 (by decide) ?_
                exact k_zret rfl isZ_0.1 C hW dX5_readTell_293 hq
              · have hq := hq.2 c52
                refine lv_aload_n hx hb dX5_readTell_279 rfl (lv_at hl 1 rfl) ?_
                refine lv_bipush (v := 59) hx hb dX5_readTell_280 (by decide) ?_
                refine k_ci hW (va_runV (As := [.int 59]) (rest := []) (k_fix C) (c_X5_take l G h50 59 _ hq) (cwV 1 C.2.2.2.2.2.1 (gU_V mw417 mw418 mw419 mw19 mw420) rfl rfl rfl (by decide +kernel) ⟨Nat.le_of_ble_eq_true rfl, Nat.le_of_ble_eq_true rfl⟩) (k_preV hK hW (shC_lt (rfl : shC 2 = 5) (by decide)) (ceC_5 (rfl : shC 2 = 5)) (q := (RX5, TX5, 7)) rfl) rfl rfl hl.1 rfl (lv_room (Nat.le_of_ble_eq_true rfl)) dX5_readTell_282 ⟨Nat.le_refl 0, Nat.le_refl 0⟩) (fun r54 h53 H locs hq hW => ?_)
                refine lv_if_eq (tgt := 292) hx hb dX5_readTell_285 (by decide) (fun c55 => ?_) (fun c55 => ?_)
                · have hq := hq.1 c55
                  refine lv_iconst (v := 0) hx hb dX5_readTell_292 (by decide) ?_
                  exact k_zret rfl isZ_0.1 C hW dX5_readTell_293 hq
                · have hq := hq.2 c55
                  refine lv_iconst (v := 1) hx hb dX5_readTell_288 (by decide) ?_
                  refine lv_goto (tgt := 293) hx hb dX5_readTell_289 (by decide) ?_
                  exact k_zret rfl isZ_1.1 C hW dX5_readTell_293 hq
          have hq := hq.2
          by_cases c56 : sw12 = 260
          · have hq := hq.1 c56
            refine k_top c56 ?_
            refine lv_tableIn (tgt := 187) (off := 134) hx hb dX5_readTell_53 (by decide) (by decide) (by decide) (by decide) ?_
            refine lv_aload_n hx hb dX5_readTell_187 rfl (lv_at hl 1 rfl) ?_
            refine lv_iconst (v := 3) hx hb dX5_readTell_188 (by decide) ?_
            refine k_ci hW (va_runV (As := [.int 3]) (rest := []) (k_fix C) (c_X5_take l G h9 3 _ hq) (cwV 1 C.2.2.2.2.2.1 (gU_V mw417 mw418 mw419 mw19 mw420) rfl rfl rfl (by decide +kernel) ⟨Nat.le_of_ble_eq_true rfl, Nat.le_of_ble_eq_true rfl⟩) (k_preV hK hW (shC_lt (rfl : shC 2 = 5) (by decide)) (ceC_5 (rfl : shC 2 = 5)) (q := (RX5, TX5, 7)) rfl) rfl rfl hl.1 rfl (lv_room (Nat.le_of_ble_eq_true rfl)) dX5_readTell_189 ⟨Nat.le_refl 0, Nat.le_refl 0⟩) (fun r58 h57 H locs hq hW => ?_)
            refine lv_if_eq (tgt := 223) hx hb dX5_readTell_192 (by decide) (fun c59 => ?_) (fun c59 => ?_)
            · have hq := hq.1 c59
              refine lv_iconst (v := 0) hx hb dX5_readTell_223 (by decide) ?_
              exact k_zret rfl isZ_0.1 C hW dX5_readTell_224 hq
            · have hq := hq.2 c59
              refine lv_aload_n hx hb dX5_readTell_195 rfl (lv_at hl 1 rfl) ?_
              refine lv_iconst (v := 3) hx hb dX5_readTell_196 (by decide) ?_
              refine k_ci hW (va_runV (As := [.int 3]) (rest := []) (k_fix C) (c_X5_take l G h57 3 _ hq) (cwV 1 C.2.2.2.2.2.1 (gU_V mw417 mw418 mw419 mw19 mw420) rfl rfl rfl (by decide +kernel) ⟨Nat.le_of_ble_eq_true rfl, Nat.le_of_ble_eq_true rfl⟩) (k_preV hK hW (shC_lt (rfl : shC 2 = 5) (by decide)) (ceC_5 (rfl : shC 2 = 5)) (q := (RX5, TX5, 7)) rfl) rfl rfl hl.1 rfl (lv_room (Nat.le_of_ble_eq_true rfl)) dX5_readTell_197 ⟨Nat.le_refl 0, Nat.le_refl 0⟩) (fun r61 h60 H locs hq hW => ?_)
              refine lv_if_eq (tgt := 223) hx hb dX5_readTell_200 (by decide) (fun c62 => ?_) (fun c62 => ?_)
              · have hq := hq.1 c62
                refine lv_iconst (v := 0) hx hb dX5_readTell_223 (by decide) ?_
                exact k_zret rfl isZ_0.1 C hW dX5_readTell_224 hq
              · have hq := hq.2 c62
                refine lv_aload_n hx hb dX5_readTell_203 rfl (lv_at hl 1 rfl) ?_
                refine k_ci hW (va_runV (As := []) (rest := []) (k_fix C) (c_X5_tellShare l G h60 _ hq) (cwV 0 C.2.2.2.2.2.1 (gU_V mw551 mw552 mw553 mw19 mw554) rfl rfl rfl (by decide +kernel) ⟨Nat.le_of_ble_eq_true rfl, Nat.le_of_ble_eq_true rfl⟩) (k_preV hK hW (shC_lt (rfl : shC 2 = 5) (by decide)) (ceC_5 (rfl : shC 2 = 5)) (q := (RX5, TX5, 7)) rfl) rfl rfl hl.1 rfl (lv_room (Nat.le_of_ble_eq_true rfl)) dX5_readTell_204 ⟨Nat.le_refl 0, Nat.le_refl 0⟩) (fun r64 h63 H locs hq hW => ?_)
                refine lv_if_eq (tgt := 223) hx hb dX5_readTell_207 (by decide) (fun c65 => ?_) (fun c65 => ?_)
                · have hq := hq.1 c65
                  refine lv_iconst (v := 0) hx hb dX5_readTell_223 (by decide) ?_
                  exact k_zret rfl isZ_0.1 C hW dX5_readTell_224 hq
                · have hq := hq.2 c65
                  refine lv_aload_n hx hb dX5_readTell_210 rfl (lv_at hl 1 rfl) ?_
                  refine lv_bipush (v := 59) hx hb dX5_readTell_211 (by decide) ?_
                  refine k_ci hW (va_runV (As := [.int 59]) (rest := []) (k_fix C) (c_X5_take l G h63 59 _ hq) (cwV 1 C.2.2.2.2.2.1 (gU_V mw417 mw418 mw419 mw19 mw420) rfl rfl rfl (by decide +kernel) ⟨Nat.le_of_ble_eq_true rfl, Nat.le_of_ble_eq_true rfl⟩) (k_preV hK hW (shC_lt (rfl : shC 2 = 5) (by decide)) (ceC_5 (rfl : shC 2 = 5)) (q := (RX5, TX5, 7)) rfl) rfl rfl hl.1 rfl (lv_room (Nat.le_of_ble_eq_true rfl)) dX5_readTell_213 ⟨Nat.le_refl 0, Nat.le_refl 0⟩) (fun r67 h66 H locs hq hW => ?_)
                  refine lv_if_eq (tgt := 223) hx hb dX5_readTell_216 (by decide) (fun c68 => ?_) (fun c68 => ?_)
                  · have hq := hq.1 c68
                    refine lv_iconst (v := 0) hx hb dX5_readTell_223 (by decide) ?_
                    exact k_zret rfl isZ_0.1 C hW dX5_readTell_224 hq
                  · have hq := hq.2 c68
                    refine lv_iconst (v := 1) hx hb dX5_readTell_219 (by decide) ?_
                    refine lv_goto (tgt := 224) hx hb dX5_readTell_220 (by decide) ?_
                    exact k_zret rfl isZ_1.1 C hW dX5_readTell_224 hq
          have hq := hq.2
          by_cases c69 : sw12 = 261
          · have hq := hq.1 c69
            refine k_top c69 ?_
            refine lv_tableIn (tgt := 263) (off := 210) hx hb dX5_readTell_53 (by decide) (by decide) (by decide) (by decide) ?_
            refine lv_aload_n hx hb dX5_readTell_263 rfl (lv_at hl 1 rfl) ?_
            refine lv_iconst (v := 3) hx hb dX5_readTell_264 (by decide) ?_
            refine k_ci hW (va_runV (As := [.int 3]) (rest := []) (k_fix C) (c_X5_take l G h9 3 _ hq) (cwV 1 C.2.2.2.2.2.1 (gU_V mw417 mw418 mw419 mw19 mw420) rfl rfl rfl (by decide +kernel) ⟨Nat.le_of_ble_eq_true rfl, Nat.le_of_ble_eq_true rfl⟩) (k_preV hK hW (shC_lt (rfl : shC 2 = 5) (by decide)) (ceC_5 (rfl : shC 2 = 5)) (q := (RX5, TX5, 7)) rfl) rfl rfl hl.1 rfl (lv_room (Nat.le_of_ble_eq_true rfl)) dX5_readTell_265 ⟨Nat.le_refl 0, Nat.le_refl 0⟩) (fun r71 h70 H locs hq hW => ?_)
            refine lv_if_eq (tgt := 292) hx hb dX5_readTell_268 (by decide) (fun c72 => ?_) (fun c72 => ?_)
            · have hq := hq.1 c72
              refine lv_iconst (v := 0) hx hb dX5_readTell_292 (by decide) ?_
              exact k_zret rfl isZ_0.1 C hW dX5_readTell_293 hq
            · have hq := hq.2 c72
              refine lv_aload_n hx hb dX5_readTell_271 rfl (lv_at hl 1 rfl) ?_
              refine lv_iload_n hx hb dX5_readTell_272 rfl (lv_at hl 0 rfl) ?_
              refine k_ci hW (va_runV (As := [.int r1]) (rest := []) (k_fix C) (c_X5_tellNumber l G h70 r1 _ hq) (cwV 1 C.2.2.2.2.2.1 (gU_V mw570 mw571 mw572 mw19 mw573) rfl rfl rfl (by decide +kernel) ⟨Nat.le_of_ble_eq_true rfl, Nat.le_of_ble_eq_true rfl⟩) (k_preV hK hW (shC_lt (rfl : shC 2 = 5) (by decide)) (ceC_5 (rfl : shC 2 = 5)) (q := (RX5, TX5, 7)) rfl) rfl rfl hl.1 rfl (lv_room (Nat.le_of_ble_eq_true rfl)) dX5_readTell_273 ⟨Nat.le_refl 0, Nat.le_refl 0⟩) (fun r74 h73 H locs hq hW => ?_)
              refine lv_if_eq (tgt := 292) hx hb dX5_readTell_276 (by decide) (fun c75 => ?_) (fun c75 => ?_)
              · have hq := hq.1 c75
                refine lv_iconst (v := 0) hx hb dX5_readTell_292 (by decide) ?_
                exact k_zret rfl isZ_0.1 C hW dX5_readTell_293 hq
              · have hq := hq.2 c75
                refine lv_aload_n hx hb dX5_readTell_279 rfl (lv_at hl 1 rfl) ?_
                refine lv_bipush (v := 59) hx hb dX5_readTell_280 (by decide) ?_
                refine k_ci hW (va_runV (As := [.int 59]) (rest := []) (k_fix C) (c_X5_take l G h73 59 _ hq) (cwV 1 C.2.2.2.2.2.1 (gU_V mw417 mw418 mw419 mw19 mw420) rfl rfl rfl (by decide +kernel) ⟨Nat.le_of_ble_eq_true rfl, Nat.le_of_ble_eq_true rfl⟩) (k_preV hK hW (shC_lt (rfl : shC 2 = 5) (by decide)) (ceC_5 (rfl : shC 2 = 5)) (q := (RX5, TX5, 7)) rfl) rfl rfl hl.1 rfl (lv_room (Nat.le_of_ble_eq_true rfl)) dX5_readTell_282 ⟨Nat.le_refl 0, Nat.le_refl 0⟩) (fun r77 h76 H locs hq hW => ?_)
                refine lv_if_eq (tgt := 292) hx hb dX5_readTell_285 (by decide) (fun c78 => ?_) (fun c78 => ?_)
                · have hq := hq.1 c78
                  refine lv_iconst (v := 0) hx hb dX5_readTell_292 (by decide) ?_
                  exact k_zret rfl isZ_0.1 C hW dX5_readTell_293 hq
                · have hq := hq.2 c78
                  refine lv_iconst (v := 1) hx hb dX5_readTell_288 (by decide) ?_
                  refine lv_goto (tgt := 293) hx hb dX5_readTell_289 (by decide) ?_
                  exact k_zret rfl isZ_1.1 C hW dX5_readTell_293 hq
          have hq := hq.2
          by_cases c79 : sw12 = 262
          · have hq := hq.1 c79
            refine k_top c79 ?_
            refine lv_tableIn (tgt := 225) (off := 172) hx hb dX5_readTell_53 (by decide) (by decide) (by decide) (by decide) ?_
            refine lv_aload_n hx hb dX5_readTell_225 rfl (lv_at hl 1 rfl) ?_
            refine lv_iconst (v := 3) hx hb dX5_readTell_226 (by decide) ?_
            refine k_ci hW (va_runV (As := [.int 3]) (rest := []) (k_fix C) (c_X5_take l G h9 3 _ hq) (cwV 1 C.2.2.2.2.2.1 (gU_V mw417 mw418 mw419 mw19 mw420) rfl rfl rfl (by decide +kernel) ⟨Nat.le_of_ble_eq_true rfl, Nat.le_of_ble_eq_true rfl⟩) (k_preV hK hW (shC_lt (rfl : shC 2 = 5) (by decide)) (ceC_5 (rfl : shC 2 = 5)) (q := (RX5, TX5, 7)) rfl) rfl rfl hl.1 rfl (lv_room (Nat.le_of_ble_eq_true rfl)) dX5_readTell_227 ⟨Nat.le_refl 0, Nat.le_refl 0⟩) (fun r81 h80 H locs hq hW => ?_)
            refine lv_if_eq (tgt := 261) hx hb dX5_readTell_230 (by decide) (fun c82 => ?_) (fun c82 => ?_)
            · have hq := hq.1 c82
              refine lv_iconst (v := 0) hx hb dX5_readTell_261 (by decide) ?_
              exact k_zret rfl isZ_0.1 C hW dX5_readTell_262 hq
            · have hq := hq.2 c82
              refine lv_aload_n hx hb dX5_readTell_233 rfl (lv_at hl 1 rfl) ?_
              refine lv_iconst (v := 3) hx hb dX5_readTell_234 (by decide) ?_
              refine k_ci hW (va_runV (As := [.int 3]) (rest := []) (k_fix C) (c_X5_take l G h80 3 _ hq) (cwV 1 C.2.2.2.2.2.1 (gU_V mw417 mw418 mw419 mw19 mw420) rfl rfl rfl (by decide +kernel) ⟨Nat.le_of_ble_eq_true rfl, Nat.le_of_ble_eq_true rfl⟩) (k_preV hK hW (shC_lt (rfl : shC 2 = 5) (by decide)) (ceC_5 (rfl : shC 2 = 5)) (q := (RX5, TX5, 7)) rfl) rfl rfl hl.1 rfl (lv_room (Nat.le_of_ble_eq_true rfl)) dX5_readTell_235 ⟨Nat.le_refl 0, Nat.le_refl 0⟩) (fun r84 h83 H locs hq hW => ?_)
              refine lv_if_eq (tgt := 261) hx hb dX5_readTell_238 (by decide) (fun c85 => ?_) (fun c85 => ?_)
              · have hq := hq.1 c85
                refine lv_iconst (v := 0) hx hb dX5_readTell_261 (by decide) ?_
                exact k_zret rfl isZ_0.1 C hW dX5_readTell_262 hq
              · have hq := hq.2 c85
                refine lv_aload_n hx hb dX5_readTell_241 rfl (lv_at hl 1 rfl) ?_
                refine k_ci hW (va_runV (As := []) (rest := []) (k_fix C) (c_X5_tellBound l G h83 _ hq) (cwV 0 C.2.2.2.2.2.1 (gU_V mw564 mw565 mw566 mw19 mw567) rfl rfl rfl (by decide +kernel) ⟨Nat.le_of_ble_eq_true rfl, Nat.le_of_ble_eq_true rfl⟩) (k_preV hK hW (shC_lt (rfl : shC 2 = 5) (by decide)) (ceC_5 (rfl : shC 2 = 5)) (q := (RX5, TX5, 7)) rfl) rfl rfl hl.1 rfl (lv_room (Nat.le_of_ble_eq_true rfl)) dX5_readTell_242 ⟨Nat.le_refl 0, Nat.le_refl 0⟩) (fun r87 h86 H locs hq hW => ?_)
                refine lv_if_eq (tgt := 261) hx hb dX5_readTell_245 (by decide) (fun c88 => ?_) (fun c88 => ?_)
                · have hq := hq.1 c88
                  refine lv_iconst (v := 0) hx hb dX5_readTell_261 (by decide) ?_
                  exact k_zret rfl isZ_0.1 C hW dX5_readTell_262 hq
                · have hq := hq.2 c88
                  refine lv_aload_n hx hb dX5_readTell_248 rfl (lv_at hl 1 rfl) ?_
                  refine lv_bipush (v := 59) hx hb dX5_readTell_249 (by decide) ?_
                  refine k_ci hW (va_runV (As := [.int 59]) (rest := []) (k_fix C) (c_X5_take l G h86 59 _ hq) (cwV 1 C.2.2.2.2.2.1 (gU_V mw417 mw418 mw419 mw19 mw420) rfl rfl rfl (by decide +kernel) ⟨Nat.le_of_ble_eq_true rfl, Nat.le_of_ble_eq_true rfl⟩) (k_preV hK hW (shC_lt (rfl : shC 2 = 5) (by decide)) (ceC_5 (rfl : shC 2 = 5)) (q := (RX5, TX5, 7)) rfl) rfl rfl hl.1 rfl (lv_room (Nat.le_of_ble_eq_true rfl)) dX5_readTell_251 ⟨Nat.le_refl 0, Nat.le_refl 0⟩) (fun r90 h89 H locs hq hW => ?_)
                  refine lv_if_eq (tgt := 261) hx hb dX5_readTell_254 (by decide) (fun c91 => ?_) (fun c91 => ?_)
                  · have hq := hq.1 c91
                    refine lv_iconst (v := 0) hx hb dX5_readTell_261 (by decide) ?_
                    exact k_zret rfl isZ_0.1 C hW dX5_readTell_262 hq
                  · have hq := hq.2 c91
                    refine lv_iconst (v := 1) hx hb dX5_readTell_257 (by decide) ?_
                    refine lv_goto (tgt := 262) hx hb dX5_readTell_258 (by decide) ?_
                    exact k_zret rfl isZ_1.1 C hW dX5_readTell_262 hq
          have hq := hq.2
          have c92 : sw12.toInt < 256 ∨ 262 < sw12.toInt := by
            rcases Int.lt_or_le sw12.toInt 256 with q | q
            · exact Or.inl q
            · refine Or.inr (Int.not_le.mp fun q2 => ?_)
              have q3 : sw12 = Int32.ofInt sw12.toInt := (Int32.ofInt_toInt sw12).symm
              have q4 : sw12.toInt = 256 ∨ sw12.toInt = 257 ∨ sw12.toInt = 258 ∨ sw12.toInt = 259 ∨ sw12.toInt = 260 ∨ sw12.toInt = 261 ∨ sw12.toInt = 262 := by omega
              rcases q4 with q4 | q4 | q4 | q4 | q4 | q4 | q4 <;> rw [q4] at q3 <;> simp_all
          refine lv_tableOut (tgt := 263) hx hb dX5_readTell_53 c92 (by decide) ?_
          have hq := hq c92
          refine lv_aload_n hx hb dX5_readTell_263 rfl (lv_at hl 1 rfl) ?_
          refine lv_iconst (v := 3) hx hb dX5_readTell_264 (by decide) ?_
          refine k_ci hW (va_runV (As := [.int 3]) (rest := []) (k_fix C) (c_X5_take l G h9 3 _ hq) (cwV 1 C.2.2.2.2.2.1 (gU_V mw417 mw418 mw419 mw19 mw420) rfl rfl rfl (by decide +kernel) ⟨Nat.le_of_ble_eq_true rfl, Nat.le_of_ble_eq_true rfl⟩) (k_preV hK hW (shC_lt (rfl : shC 2 = 5) (by decide)) (ceC_5 (rfl : shC 2 = 5)) (q := (RX5, TX5, 7)) rfl) rfl rfl hl.1 rfl (lv_room (Nat.le_of_ble_eq_true rfl)) dX5_readTell_265 ⟨Nat.le_refl 0, Nat.le_refl 0⟩) (fun r94 h93 H locs hq hW => ?_)
          refine lv_if_eq (tgt := 292) hx hb dX5_readTell_268 (by decide) (fun c95 => ?_) (fun c95 => ?_)
          · have hq := hq.1 c95
            refine lv_iconst (v := 0) hx hb dX5_readTell_292 (by decide) ?_
            exact k_zret rfl isZ_0.1 C hW dX5_readTell_293 hq
          · have hq := hq.2 c95
            refine lv_aload_n hx hb dX5_readTell_271 rfl (lv_at hl 1 rfl) ?_
            refine lv_iload_n hx hb dX5_readTell_272 rfl (lv_at hl 0 rfl) ?_
            refine k_ci hW (va_runV (As := [.int r1]) (rest := []) (k_fix C) (c_X5_tellNumber l G h93 r1 _ hq) (cwV 1 C.2.2.2.2.2.1 (gU_V mw570 mw571 mw572 mw19 mw573) rfl rfl rfl (by decide +kernel) ⟨Nat.le_of_ble_eq_true rfl, Nat.le_of_ble_eq_true rfl⟩) (k_preV hK hW (shC_lt (rfl : shC 2 = 5) (by decide)) (ceC_5 (rfl : shC 2 = 5)) (q := (RX5, TX5, 7)) rfl) rfl rfl hl.1 rfl (lv_room (Nat.le_of_ble_eq_true rfl)) dX5_readTell_273 ⟨Nat.le_refl 0, Nat.le_refl 0⟩) (fun r97 h96 H locs hq hW => ?_)
            refine lv_if_eq (tgt := 292) hx hb dX5_readTell_276 (by decide) (fun c98 => ?_) (fun c98 => ?_)
            · have hq := hq.1 c98
              refine lv_iconst (v := 0) hx hb dX5_readTell_292 (by decide) ?_
              exact k_zret rfl isZ_0.1 C hW dX5_readTell_293 hq
            · have hq := hq.2 c98
              refine lv_aload_n hx hb dX5_readTell_279 rfl (lv_at hl 1 rfl) ?_
              refine lv_bipush (v := 59) hx hb dX5_readTell_280 (by decide) ?_
              refine k_ci hW (va_runV (As := [.int 59]) (rest := []) (k_fix C) (c_X5_take l G h96 59 _ hq) (cwV 1 C.2.2.2.2.2.1 (gU_V mw417 mw418 mw419 mw19 mw420) rfl rfl rfl (by decide +kernel) ⟨Nat.le_of_ble_eq_true rfl, Nat.le_of_ble_eq_true rfl⟩) (k_preV hK hW (shC_lt (rfl : shC 2 = 5) (by decide)) (ceC_5 (rfl : shC 2 = 5)) (q := (RX5, TX5, 7)) rfl) rfl rfl hl.1 rfl (lv_room (Nat.le_of_ble_eq_true rfl)) dX5_readTell_282 ⟨Nat.le_refl 0, Nat.le_refl 0⟩) (fun r100 h99 H locs hq hW => ?_)
              refine lv_if_eq (tgt := 292) hx hb dX5_readTell_285 (by decide) (fun c101 => ?_) (fun c101 => ?_)
              · have hq := hq.1 c101
                refine lv_iconst (v := 0) hx hb dX5_readTell_292 (by decide) ?_
                exact k_zret rfl isZ_0.1 C hW dX5_readTell_293 hq
              · have hq := hq.2 c101
                refine lv_iconst (v := 1) hx hb dX5_readTell_288 (by decide) ?_
                refine lv_goto (tgt := 293) hx hb dX5_readTell_289 (by decide) ?_
                exact k_zret rfl isZ_1.1 C hW dX5_readTell_293 hq
        · have hq := hq.2 c11
          refine lv_iconst (v := 0) hx hb dX5_readTell_50 (by decide) ?_
          exact k_zret rfl isZ_0.1 C hW dX5_readTell_51 hq
      · have hq := hq.2 c8
        refine lv_aload_n hx hb dX5_readTell_36 rfl (lv_at hl 1 rfl) ?_
        refine lv_iconst (v := 2) hx hb dX5_readTell_37 (by decide) ?_
        refine k_ci hW (va_runV (As := [.int 2]) (rest := []) (k_fix C) (c_X5_stop l G h 2 _ hq) (cwV 1 C.2.2.2.2.2.1 (gU_V mw406 mw407 mw408 mw19 mw409) rfl rfl rfl (by decide +kernel) ⟨Nat.le_of_ble_eq_true rfl, Nat.le_of_ble_eq_true rfl⟩) (k_preV hK hW (shC_lt (rfl : shC 2 = 5) (by decide)) (ceC_5 (rfl : shC 2 = 5)) (q := (RX5, TX5, 7)) rfl) rfl rfl hl.1 rfl (lv_room (Nat.le_of_ble_eq_true rfl)) dX5_readTell_38 ⟨Nat.le_refl 0, Nat.le_refl 0⟩) (fun r103 h102 H locs hq hW => ?_)
        exact k_zret rfl hq.1.1 C hW dX5_readTell_41 hq.2
    · have hq := hq.2 c4
      exact k_X5_readTell_19 C hK hW (lv_sub hl [1] rfl) hq
theorem c_X5_readTell (l : Launch) (G : wG) (h : hp) (Q : Int32 → hp → Prop) (hq : w_X5_readTell h Q) : ctI l SC G yX5_readTell wUX5_readTell rmX5_readTell h [.ref (G.2.2 2)] Q := by
  refine k_start (cc := cX5_readTell) (maxL := 2) (rt := (some .boolean)) (own := RX5) (by decide +kernel) rfl rfl (Nat.le_of_ble_eq_true rfl) ?_
  intro p e s m below meth c ls C hK hW hl
  exact k_X5_readTell_0 C hK hW hl hq
theorem k_X5_findGreat_b2 {Q : hp → Prop} {X2 : Int32 × hp → Prop} (C : kC p s m args meth c cX5_findGreat 2 none RX5 wUX5_findGreat) (hK : kK G s) (hX2 : ∀ (x1 : Int32) (h : hp) (H : Heap) (locs : List Loc) (ls : Array Slot), kW SC G h (aS SC G) s H locs → lv_has ls 2 [(0, .ref (G.2.2 2)), (1, .int x1)] → X2 (x1, h) → W p l e rmX5_findGreat s m args below meth c H locs 0 0 (MQ below (va_Qv Q (kB SC G) (aS SC G)) args s 0 0 (aS SC G)) (F0 m 2 ls [])) {x1 : Int32} {h : hp} {H : Heap} {locs : List Loc} {ls : Array Slot} (hW : kW SC G h (aS SC G) s H locs) (hl : lv_has ls 2 [(0, .ref (G.2.2 2)), (1, .int x1)]) (hq : w_X5_findGreat_b2 Q X2 x1 h) : W p l e rmX5_findGreat s m args below meth c H locs 0 0 (MQ below (va_Qv Q (kB SC G) (aS SC G)) args s 0 0 (aS SC G)) (F0 m 2 ls []) := by
  have hx := C.1
  have hb := C.2.1
  unfold w_X5_findGreat_b2 at hq
  refine lv_iload_n hx hb dX5_findGreat_2 rfl (lv_at hl 1 rfl) ?_
  refine lv_aload_n hx hb dX5_findGreat_3 rfl (lv_at hl 0 rfl) ?_
  refine gt5_4 C hK hW (rfl : shC 2 = 5) (List.mem_cons_of_mem _ mw48) (fun _ h9 => List.mem_cons_of_mem _ (inU_wsX50 _ h9)) dX5_findGreat_4 ?_
  have hr1 := hq.1
  have hq := hq.2
  refine gt7_5 C hK hW hr1 (List.mem_cons_of_mem _ mw555) (fun _ h9 => List.mem_cons_of_mem _ (inU_wsX70 _ h9)) dX5_findGreat_7 ?_
  refine gt6_0 C hK hW (sl7_5 hr1) (List.mem_cons_of_mem _ mw594) (fun _ h9 => List.mem_cons_of_mem _ (inU_wsX60 _ h9)) dX5_findGreat_10 ?_
  refine lv_icmp_ge (tgt := 76) hx hb dX5_findGreat_13 (by decide) (fun c2 => ?_) (fun c2 => ?_)
  · have hq := hq.1 c2
    exact k_vret rfl C hW dX5_findGreat_76 hq
  · have hq := hq.2 c2
    refine lv_aload_n hx hb dX5_findGreat_16 rfl (lv_at hl 0 rfl) ?_
    refine gt5_1 C hK hW (rfl : shC 2 = 5) (List.mem_cons_of_mem _ mw44) (fun _ h9 => List.mem_cons_of_mem _ (inU_wsX50 _ h9)) dX5_findGreat_17 ?_
    refine lv_if_ne (tgt := 76) hx hb dX5_findGreat_20 (by decide) (fun c3 => ?_) (fun c3 => ?_)
    · have hq := hq.1 c3
      exact k_vret rfl C hW dX5_findGreat_76 hq
    · have hq := hq.2 c3
      refine lv_aload_n hx hb dX5_findGreat_23 rfl (lv_at hl 0 rfl) ?_
      refine gt5_4 C hK hW (rfl : shC 2 = 5) (List.mem_cons_of_mem _ mw48) (fun _ h9 => List.mem_cons_of_mem _ (inU_wsX50 _ h9)) dX5_findGreat_24 ?_
      have hr4 := hq.1
      have hq := hq.2
      refine gt7_5 C hK hW hr4 (List.mem_cons_of_mem _ mw555) (fun _ h9 => List.mem_cons_of_mem _ (inU_wsX70 _ h9)) dX5_findGreat_27 ?_
      refine gt6_2 C hK hW (sl7_5 hr4) (List.mem_cons_of_mem _ mw595) (fun _ h9 => List.mem_cons_of_mem _ (inU_wsX60 _ h9)) dX5_findGreat_30 ?_
      refine lv_iload_n hx hb dX5_findGreat_33 rfl (lv_at hl 1 rfl) ?_
      refine k_iald C hK hW (shC_lt (sl6_2 (sl7_5 hr4)).1 (by decide)) (ceC_14 (sl6_2 (sl7_5 hr4)).1 (sl6_2 (sl7_5 hr4)).2) hq.1 dX5_findGreat_34 ?_
      have hq := hq.2
      refine lv_aload_n hx hb dX5_findGreat_35 rfl (lv_at hl 0 rfl) ?_
      refine gt5_4 C hK hW (rfl : shC 2 = 5) (List.mem_cons_of_mem _ mw48) (fun _ h9 => List.mem_cons_of_mem _ (inU_wsX50 _ h9)) dX5_findGreat_36 ?_
      have hr5 := hq.1
      have hq := hq.2
      refine gt7_5 C hK hW hr5 (List.mem_cons_of_mem _ mw555) (fun _ h9 => List.mem_cons_of_mem _ (inU_wsX70 _ h9)) dX5_findGreat_39 ?_
      refine gt6_1 C hK hW (sl7_5 hr5) (List.mem_cons_of_mem _ mw576) (fun _ h9 => List.mem_cons_of_mem _ (inU_wsX60 _ h9)) dX5_findGreat_42 ?_
      refine lv_icmp_lt (tgt := 70) hx hb dX5_findGreat_45 (by decide) (fun c6 => ?_) (fun c6 => ?_)
      · have hq := hq.1 c6
        obtain ⟨x1_7, ex1_7⟩ : ∃ y : Int32, y = x1 + 1 := ⟨_, rfl⟩
        have hq := hq x1_7 ex1_7
        refine lv_iinc (v := x1_7) (lv' := [(1, .int x1_7), (0, .ref (G.2.2 2))]) hx hb dX5_findGreat_70 hl (k := 1) rfl (by rw [ex1_7]; rfl) (by decide) rfl (fun ls hl => ?_)
        refine lv_goto (tgt := 2) hx hb dX5_findGreat_73 (by decide) ?_
        exact hX2 _ _ _ _ _ hW (lv_sub hl [1, 0] rfl) hq
      · have hq := hq.2 c6
        refine lv_aload_n hx hb dX5_findGreat_48 rfl (lv_at hl 0 rfl) ?_
        refine lv_bipush (v := 6) hx hb dX5_findGreat_49 (by decide) ?_
        refine pt5_1 C hK hW (rfl : shC 2 = 5) (List.mem_cons_of_mem _ mw44) (fun _ h9 => List.mem_cons_of_mem _ (inU_wsX50 _ h9)) dX5_findGreat_51 (fun h8 H locs eh8 hW => ?_)
        have hq := hq h8 eh8
        refine lv_aload_n hx hb dX5_findGreat_54 rfl (lv_at hl 0 rfl) ?_
        refine lv_aload_n hx hb dX5_findGreat_55 rfl (lv_at hl 0 rfl) ?_
        refine gt5_4 C hK hW (rfl : shC 2 = 5) (List.mem_cons_of_mem _ mw48) (fun _ h9 => List.mem_cons_of_mem _ (inU_wsX50 _ h9)) dX5_findGreat_56 ?_
        have hr9 := hq.1
        have hq := hq.2
        refine gt7_5 C hK hW hr9 (List.mem_cons_of_mem _ mw555) (fun _ h9 => List.mem_cons_of_mem _ (inU_wsX70 _ h9)) dX5_findGreat_59 ?_
        refine gt6_3 C hK hW (sl7_5 hr9) (List.mem_cons_of_mem _ mw596) (fun _ h9 => List.mem_cons_of_mem _ (inU_wsX60 _ h9)) dX5_findGreat_62 ?_
        refine lv_iload_n hx hb dX5_findGreat_65 rfl (lv_at hl 1 rfl) ?_
        refine k_iald C hK hW (shC_lt (sl6_3 (sl7_5 hr9)).1 (by decide)) (ceC_14 (sl6_3 (sl7_5 hr9)).1 (sl6_3 (sl7_5 hr9)).2) hq.1 dX5_findGreat_66 ?_
        have hq := hq.2
        refine pt5_0 C hK hW (rfl : shC 2 = 5) (List.mem_cons_of_mem _ mw43) (fun _ h9 => List.mem_cons_of_mem _ (inU_wsX50 _ h9)) dX5_findGreat_67 (fun h10 H locs eh10 hW => ?_)
        have hq := hq h10 eh10
        obtain ⟨x1_11, ex1_11⟩ : ∃ y : Int32, y = x1 + 1 := ⟨_, rfl⟩
        have hq := hq x1_11 ex1_11
        refine lv_iinc (v := x1_11) (lv' := [(1, .int x1_11), (0, .ref (G.2.2 2))]) hx hb dX5_findGreat_70 hl (k := 1) rfl (by rw [ex1_11]; rfl) (by decide) rfl (fun ls hl => ?_)
        refine lv_goto (tgt := 2) hx hb dX5_findGreat_73 (by decide) ?_
        exact hX2 _ _ _ _ _ hW (lv_sub hl [1, 0] rfl) hq
theorem k_X5_findGreat_2 {Q : hp → Prop} (C : kC p s m args meth c cX5_findGreat 2 none RX5 wUX5_findGreat) (hK : kK G s) {x1 : Int32} {h : hp} {H : Heap} {locs : List Loc} {ls : Array Slot} (hW : kW SC G h (aS SC G) s H locs) (hl : lv_has ls 2 [(0, .ref (G.2.2 2)), (1, .int x1)]) (hq : w_X5_findGreat_2 Q x1 h) : W p l e rmX5_findGreat s m args below meth c H locs 0 0 (MQ below (va_Qv Q (kB SC G) (aS SC G)) args s 0 0 (aS SC G)) (F0 m 2 ls []) := by
  have key := hq (fun (q : Int32 × hp) => ∀ (H : Heap) (locs : List Loc) (ls : Array Slot), kW SC G q.2 (aS SC G) s H locs → lv_has ls 2 [(0, .ref (G.2.2 2)), (1, .int q.1)] → W p l e rmX5_findGreat s m args below meth c H locs 0 0 (MQ below (va_Qv Q (kB SC G) (aS SC G)) args s 0 0 (aS SC G)) (F0 m 2 ls []))
    (fun q hq H locs ls hW hl => k_X5_findGreat_b2 C hK (fun x1 h H locs ls hW hl hI => hI H locs ls hW hl) hW hl hq)
  exact key _ _ _ hW hl
theorem k_X5_findGreat_0 {Q : hp → Prop} {h : hp} (C : kC p s m args meth c cX5_findGreat 2 none RX5 wUX5_findGreat) (hK : kK G s) {H : Heap} {locs : List Loc} {ls : Array Slot} (hW : kW SC G h (aS SC G) s H locs) (hl : lv_has ls 2 [(0, .ref (G.2.2 2))]) (hq : w_X5_findGreat_0 Q h) : W p l e rmX5_findGreat s m args below meth c H locs 0 0 (MQ below (va_Qv Q (kB SC G) (aS SC G)) args s 0 0 (aS SC G)) (F0 m 0 ls []) := by
  have hx := C.1
  have hb := C.2.1
  unfold w_X5_findGreat_0 at hq
  refine lv_iconst (v := 0) hx hb dX5_findGreat_0 (by decide) ?_
  refine lv_istore_n (lv' := [(1, .int 0), (0, .ref (G.2.2 2))]) hx hb dX5_findGreat_1 rfl hl (by decide) rfl (fun ls hl => ?_)
  exact k_X5_findGreat_2 C hK hW (lv_sub hl [1, 0] rfl) hq
theorem c_X5_findGreat (l : Launch) (G : wG) (h : hp) (Q : hp → Prop) (hq : w_X5_findGreat h Q) : ctV l SC G yX5_findGreat wUX5_findGreat rmX5_findGreat h [.ref (G.2.2 2)] Q := by
  refine k_start (cc := cX5_findGreat) (maxL := 2) (rt := none) (own := RX5) (by decide +kernel) rfl rfl (Nat.le_of_ble_eq_true rfl) ?_
  intro p e s m below meth c ls C hK hW hl
  exact k_X5_findGreat_0 C hK hW hl hq
end LINKS
