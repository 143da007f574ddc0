section LINKS
variable {p : Program} {l : Launch} {e : Env} {s : State} {m : MethodId} {args : Array Value} {below : List Frame} {meth : Method} {c : Code} {G : wG}
theorem k_X5_readDraft_77 {o1 : Nat} (ho1 : shC o1 = 13) {no1 : Nat} (hno1 : lnC o1 = no1) {Q : Int32 → hp → Prop} {h : hp} (C : kC p s m args meth c cX5_readDraft 5 (some .int) RX5 wUX5_readDraft) (hK : kK G s) {H : Heap} {locs : List Loc} {ls : Array Slot} (hW : kW SC G h (aS SC G) s H locs) (hl : lv_has ls 5 [(0, .ref (G.2.2 2))]) (hq : w_X5_readDraft_77 o1 no1 Q h) : W p l e rmX5_readDraft s m args below meth c H locs 0 0 (MQ below (va_Qi Q (kB SC G) (aS SC G)) args s 0 0 (aS SC G)) (F0 m 77 ls []) := by
  have hx := C.1
  have hb := C.2.1
  unfold w_X5_readDraft_77 at hq
  refine lv_aload_n hx hb dX5_readDraft_77 rfl (lv_at hl 0 rfl) ?_
  refine gt5_1 C hK hW (rfl : shC 2 = 5) (List.mem_cons_of_mem _ mw44) (fun _ h9 => List.mem_cons_of_mem _ (inU_wsX50 _ h9)) dX5_readDraft_78 ?_
  exact k_iret rfl C hW dX5_readDraft_81 hq
theorem k_X5_readDraft_66 {o1 : Nat} (ho1 : shC o1 = 13) {no1 : Nat} (hno1 : lnC o1 = no1) {Q : Int32 → hp → Prop} {h : hp} (C : kC p s m args meth c cX5_readDraft 5 (some .int) RX5 wUX5_readDraft) (hK : kK G s) {H : Heap} {locs : List Loc} {ls : Array Slot} (hW : kW SC G h (aS SC G) s H locs) (hl : lv_has ls 5 [(0, .ref (G.2.2 2))]) (hq : w_X5_readDraft_66 o1 no1 Q h) : W p l e rmX5_readDraft s m args below meth c H locs 0 0 (MQ below (va_Qi Q (kB SC G) (aS SC G)) args s 0 0 (aS SC G)) (F0 m 66 ls []) := by
  have hx := C.1
  have hb := C.2.1
  unfold w_X5_readDraft_66 at hq
  refine lv_aload_n hx hb dX5_readDraft_66 rfl (lv_at hl 0 rfl) ?_
  refine gt5_1 C hK hW (rfl : shC 2 = 5) (List.mem_cons_of_mem _ mw44) (fun _ h9 => List.mem_cons_of_mem _ (inU_wsX50 _ h9)) dX5_readDraft_67 ?_
  refine lv_if_ne (tgt := 77) hx hb dX5_readDraft_70 (by decide) (fun c15 => ?_) (fun c15 => ?_)
  · have hq := hq.1 c15
    exact k_X5_readDraft_77 ho1 hno1 C hK hW (lv_sub hl [0] rfl) hq
  · have hq := hq.2 c15
    refine lv_aload_n hx hb dX5_readDraft_73 rfl (lv_at hl 0 rfl) ?_
    refine k_cv hW (va_runV (As := []) (rest := []) (k_fix C) (c_X5_findGreat l G h _ hq) (cwV 0 C.2.2.2.2.2.1 (gU_V mw590 mw591 mw592 mw19 mw593) rfl rfl rfl (by decide +kernel) ⟨Nat.le_of_ble_eq_true rfl, Nat.le_of_ble_eq_true rfl⟩) (k_preV hK hW (shC_lt (rfl : shC 2 = 5) (by decide)) (ceC_5 (rfl : shC 2 = 5)) (q := (RX5, TX5, 7)) rfl) rfl rfl hl.1 rfl (lv_room (Nat.le_of_ble_eq_true rfl)) dX5_readDraft_74 ⟨Nat.le_refl 0, Nat.le_refl 0⟩) (fun h16 H locs hq hW => ?_)
    exact k_X5_readDraft_77 ho1 hno1 C hK hW (lv_sub hl [0] rfl) hq
theorem k_X5_readDraft_b36 {o1 : Nat} (ho1 : shC o1 = 13) {no1 : Nat} (hno1 : lnC o1 = no1) {Q : Int32 → hp → Prop} {X36 : Int32 × Int32 × hp → Prop} (C : kC p s m args meth c cX5_readDraft 5 (some .int) RX5 wUX5_readDraft) (hK : kK G s) (hX36 : ∀ (x3 : Int32) (x4 : Int32) (h : hp) (H : Heap) (locs : List Loc) (ls : Array Slot), kW SC G h (aS SC G) s H locs → lv_has ls 5 [(0, .ref (G.2.2 2)), (3, .int x3), (4, .int x4)] → X36 (x3, x4, h) → W p l e rmX5_readDraft s m args below meth c H locs 0 0 (MQ below (va_Qi Q (kB SC G) (aS SC G)) args s 0 0 (aS SC G)) (F0 m 36 ls [])) {x3 : Int32} {x4 : Int32} {h : hp} {H : Heap} {locs : List Loc} {ls : Array Slot} (hW : kW SC G h (aS SC G) s H locs) (hl : lv_has ls 5 [(0, .ref (G.2.2 2)), (3, .int x3), (4, .int x4)]) (hq : w_X5_readDraft_b36 o1 no1 Q X36 x3 x4 h) : W p l e rmX5_readDraft s m args below meth c H locs 0 0 (MQ below (va_Qi Q (kB SC G) (aS SC G)) args s 0 0 (aS SC G)) (F0 m 36 ls []) := by
  have hx := C.1
  have hb := C.2.1
  unfold w_X5_readDraft_b36 at hq
  refine lv_iload hx hb dX5_readDraft_36 (lv_at hl 2 rfl) ?_
  refine lv_sipush (v := 400) hx hb dX5_readDraft_38 (by decide) ?_
  refine lv_icmp_gt (tgt := 66) hx hb dX5_readDraft_41 (by decide) (fun c7 => ?_) (fun c7 => ?_)
  · have hq := hq.1 c7
    exact k_X5_readDraft_66 ho1 hno1 C hK hW (lv_sub hl [0] rfl) hq
  · have hq := hq.2 c7
    refine lv_iload_n hx hb dX5_readDraft_44 rfl (lv_at hl 1 rfl) ?_
    refine lv_if_eq (tgt := 66) hx hb dX5_readDraft_45 (by decide) (fun c8 => ?_) (fun c8 => ?_)
    · have hq := hq.1 c8
      exact k_X5_readDraft_66 ho1 hno1 C hK hW (lv_sub hl [0] rfl) hq
    · have hq := hq.2 c8
      refine lv_aload_n hx hb dX5_readDraft_48 rfl (lv_at hl 0 rfl) ?_
      refine k_ci hW (va_runV (As := []) (rest := []) (k_fix C) (c_X5_kind l G h _ hq) (cwV 0 C.2.2.2.2.2.1 (gU_V mw397 mw398 mw399 mw19 mw400) rfl rfl rfl (by decide +kernel) ⟨Nat.le_of_ble_eq_true rfl, Nat.le_of_ble_eq_true rfl⟩) (k_preV hK hW (shC_lt (rfl : shC 2 = 5) (by decide)) (ceC_5 (rfl : shC 2 = 5)) (q := (RX5, TX5, 7)) rfl) rfl rfl hl.1 rfl (lv_room (Nat.le_of_ble_eq_true rfl)) dX5_readDraft_49 ⟨Nat.le_refl 0, Nat.le_refl 0⟩) (fun r9 h10 H locs hq hW => ?_)
      rw [hq.1] at hW
      have hq := hq.2
      refine lv_if_eq (tgt := 66) hx hb dX5_readDraft_52 (by decide) (fun c11 => ?_) (fun c11 => ?_)
      · have hq := hq.1 c11
        exact k_X5_readDraft_66 ho1 hno1 C hK hW (lv_sub hl [0] rfl) hq
      · have hq := hq.2 c11
        refine lv_aload_n hx hb dX5_readDraft_55 rfl (lv_at hl 0 rfl) ?_
        refine k_ci hW (va_runV (As := []) (rest := []) (k_fix C) (c_X5_readTell l G h _ hq) (cwV 0 C.2.2.2.2.2.1 (gU_V mw402 mw403 mw404 mw19 mw405) rfl rfl rfl (by decide +kernel) ⟨Nat.le_of_ble_eq_true rfl, Nat.le_of_ble_eq_true rfl⟩) (k_preV hK hW (shC_lt (rfl : shC 2 = 5) (by decide)) (ceC_5 (rfl : shC 2 = 5)) (q := (RX5, TX5, 7)) rfl) rfl rfl hl.1 rfl (lv_room (Nat.le_of_ble_eq_true rfl)) dX5_readDraft_56 ⟨Nat.le_refl 0, Nat.le_refl 0⟩) (fun r13 h12 H locs hq hW => ?_)
        refine lv_istore_n (lv' := [(3, .int r13), (0, .ref (G.2.2 2)), (4, .int x4)]) hx hb dX5_readDraft_59 rfl hl (by decide) rfl (fun ls hl => ?_)
        obtain ⟨x4_14, ex4_14⟩ : ∃ y : Int32, y = x4 + 1 := ⟨_, rfl⟩
        have hq := hq x4_14 ex4_14
        refine lv_iinc (v := x4_14) (lv' := [(4, .int x4_14), (3, .int r13), (0, .ref (G.2.2 2))]) hx hb dX5_readDraft_60 hl (k := 2) rfl (by rw [ex4_14]; rfl) (by decide) rfl (fun ls hl => ?_)
        refine lv_goto (tgt := 36) hx hb dX5_readDraft_63 (by decide) ?_
        exact hX36 _ _ _ _ _ _ hW (lv_sub hl [2, 1, 0] rfl) hq
theorem k_X5_readDraft_36 {o1 : Nat} (ho1 : shC o1 = 13) {no1 : Nat} (hno1 : lnC o1 = no1) {Q : Int32 → hp → Prop} (C : kC p s m args meth c cX5_readDraft 5 (some .int) RX5 wUX5_readDraft) (hK : kK G s) {x3 : Int32} {x4 : Int32} {h : hp} {H : Heap} {locs : List Loc} {ls : Array Slot} (hW : kW SC G h (aS SC G) s H locs) (hl : lv_has ls 5 [(0, .ref (G.2.2 2)), (3, .int x3), (4, .int x4)]) (hq : w_X5_readDraft_36 o1 no1 Q x3 x4 h) : W p l e rmX5_readDraft s m args below meth c H locs 0 0 (MQ below (va_Qi Q (kB SC G) (aS SC G)) args s 0 0 (aS SC G)) (F0 m 36 ls []) := by
  have key := hq (fun (q : Int32 × Int32 × hp) => ∀ (H : Heap) (locs : List Loc) (ls : Array Slot), kW SC G q.2.2 (aS SC G) s H locs → lv_has ls 5 [(0, .ref (G.2.2 2)), (3, .int q.1), (4, .int q.2.1)] → W p l e rmX5_readDraft s m args below meth c H locs 0 0 (MQ below (va_Qi Q (kB SC G) (aS SC G)) args s 0 0 (aS SC G)) (F0 m 36 ls []))
    (fun q hq H locs ls hW hl => k_X5_readDraft_b36 ho1 hno1 C hK (fun x3 x4 h H locs ls hW hl hI => hI H locs ls hW hl) hW hl hq)
  exact key _ _ _ hW hl
theorem k_X5_readDraft_0 {o1 : Nat} (ho1 : shC o1 = 13) {no1 : Nat} (hno1 : lnC o1 = no1) {Q : Int32 → hp → Prop} {x2 : Int32} {h : hp} (C : kC p s m args meth c cX5_readDraft 5 (some .int) RX5 wUX5_readDraft) (hK : kK G s) {H : Heap} {locs : List Loc} {ls : Array Slot} (hW : kW SC G h (aS SC G) s H locs) (hl : lv_has ls 5 [(0, .ref (G.2.2 2)), (1, .ref (G.2.2 o1)), (2, .int x2)]) (hq : w_X5_readDraft_0 o1 no1 Q x2 h) : W p l e rmX5_readDraft s m args below meth c H locs 0 0 (MQ below (va_Qi Q (kB SC G) (aS SC G)) args s 0 0 (aS SC G)) (F0 m 0 ls []) := by
  have hx := C.1
  have hb := C.2.1
  unfold w_X5_readDraft_0 at hq
  refine lv_aload_n hx hb dX5_readDraft_0 rfl (lv_at hl 0 rfl) ?_
  refine gt5_4 C hK hW (rfl : shC 2 = 5) (List.mem_cons_of_mem _ mw48) (fun _ h9 => List.mem_cons_of_mem _ (inU_wsX50 _ h9)) dX5_readDraft_1 ?_
  have hr1 := hq.1
  have hq := hq.2
  refine k_cv hW (va_runV (As := []) (rest := []) (k_fix C) (c_X7_clear l G hr1 h _ hq) (cwV 0 C.2.2.2.2.2.1 (gU_V mw360 mw107 mw108 mw23 mw109) rfl rfl rfl (by decide +kernel) ⟨Nat.le_of_ble_eq_true rfl, Nat.le_of_ble_eq_true rfl⟩) (k_preV hK hW (shC_lt hr1 (by decide)) (ceC_7 hr1) (q := (RX7, TX7, 10)) rfl) rfl rfl hl.1 rfl (lv_room (Nat.le_of_ble_eq_true rfl)) dX5_readDraft_4 ⟨Nat.le_refl 0, Nat.le_refl 0⟩) (fun h2 H locs hq hW => ?_)
  refine lv_aload_n hx hb dX5_readDraft_7 rfl (lv_at hl 0 rfl) ?_
  refine gt5_5 C hK hW (rfl : shC 2 = 5) (List.mem_cons_of_mem _ mw52) (fun _ h9 => List.mem_cons_of_mem _ (inU_wsX50 _ h9)) dX5_readDraft_8 ?_
  refine lv_aload_n hx hb dX5_readDraft_11 rfl (lv_at hl 1 rfl) ?_
  refine lv_iload_n hx hb dX5_readDraft_12 rfl (lv_at hl 2 rfl) ?_
  refine k_cv hW (va_runV (As := [.ref (G.2.2 o1), .int x2]) (rest := []) (k_fix C) (c_X8_cut l G ho1 hno1 h2 x2 _ hq) (cwV 2 C.2.2.2.2.2.1 (gU_V mw361 mw362 mw363 mw51 mw364) rfl rfl rfl (by decide +kernel) ⟨Nat.le_of_ble_eq_true rfl, Nat.le_of_ble_eq_true rfl⟩) (k_preV hK hW (shC_lt (rfl : shC 3 = 8) (by decide)) (ceC_8 (rfl : shC 3 = 8)) (q := (RX8, TX8, 5)) rfl) rfl rfl hl.1 rfl (lv_room (Nat.le_of_ble_eq_true rfl)) dX5_readDraft_13 ⟨Nat.le_refl 0, Nat.le_refl 0⟩) (fun h3 H locs hq hW => ?_)
  refine lv_aload_n hx hb dX5_readDraft_16 rfl (lv_at hl 0 rfl) ?_
  refine lv_iconst (v := 0) hx hb dX5_readDraft_17 (by decide) ?_
  refine pt5_2 C hK hW (rfl : shC 2 = 5) (List.mem_cons_of_mem _ mw45) (fun _ h9 => List.mem_cons_of_mem _ (inU_wsX50 _ h9)) dX5_readDraft_18 (fun h4 H locs eh4 hW => ?_)
  have hq := hq h4 eh4
  refine lv_aload_n hx hb dX5_readDraft_21 rfl (lv_at hl 0 rfl) ?_
  refine lv_iconst (v := 0) hx hb dX5_readDraft_22 (by decide) ?_
  refine pt5_1 C hK hW (rfl : shC 2 = 5) (List.mem_cons_of_mem _ mw44) (fun _ h9 => List.mem_cons_of_mem _ (inU_wsX50 _ h9)) dX5_readDraft_23 (fun h5 H locs eh5 hW => ?_)
  have hq := hq h5 eh5
  refine lv_aload_n hx hb dX5_readDraft_26 rfl (lv_at hl 0 rfl) ?_
  refine lv_iconst (v := (-1)) hx hb dX5_readDraft_27 (by decide) ?_
  refine pt5_0 C hK hW (rfl : shC 2 = 5) (List.mem_cons_of_mem _ mw43) (fun _ h9 => List.mem_cons_of_mem _ (inU_wsX50 _ h9)) dX5_readDraft_28 (fun h6 H locs eh6 hW => ?_)
  have hq := hq h6 eh6
  refine lv_iconst (v := 1) hx hb dX5_readDraft_31 (by decide) ?_
  refine lv_istore_n (lv' := [(3, .int 1), (0, .ref (G.2.2 2)), (1, .ref (G.2.2 o1)), (2, .int x2)]) hx hb dX5_readDraft_32 rfl hl (by decide) rfl (fun ls hl => ?_)
  refine lv_iconst (v := 0) hx hb dX5_readDraft_33 (by decide) ?_
  refine lv_istore (lv' := [(4, .int 0), (3, .int 1), (0, .ref (G.2.2 2)), (1, .ref (G.2.2 o1)), (2, .int x2)]) hx hb dX5_readDraft_34 hl (by decide) rfl (fun ls hl => ?_)
  exact k_X5_readDraft_36 ho1 hno1 C hK hW (lv_sub hl [2, 1, 0] rfl) hq
theorem c_X5_readDraft (l : Launch) (G : wG) {o1 : Nat} (ho1 : shC o1 = 13) {no1 : Nat} (hno1 : lnC o1 = no1) (h : hp) (x2 : Int32) (Q : Int32 → hp → Prop) (hq : w_X5_readDraft o1 no1 h x2 Q) : ctI l SC G yX5_readDraft wUX5_readDraft rmX5_readDraft h [.ref (G.2.2 2), .ref (G.2.2 o1), .int x2] Q := by
  refine k_start (cc := cX5_readDraft) (maxL := 5) (rt := (some .int)) (own := RX5) (by decide +kernel) rfl rfl (Nat.le_of_ble_eq_true rfl) ?_
  intro p e s m below meth c ls C hK hW hl
  exact k_X5_readDraft_0 ho1 hno1 C hK hW hl hq
theorem k_X5_exchange_0 {o1 : Nat} (ho1 : shC o1 = 7) {Q : Nat → hp → Prop} {h : hp} (C : kC p s m args meth c cX5_exchange 3 (some (.object "TwoAsks$Text")) RX5 wUX5_exchange) (hK : kK G s) {H : Heap} {locs : List Loc} {ls : Array Slot} (hW : kW SC G h (aS SC G) s H locs) (hl : lv_has ls 3 [(0, .ref (G.2.2 2)), (1, .ref (G.2.2 o1))]) (hq : w_X5_exchange_0 o1 Q h) : W p l e rmX5_exchange s m args below meth c H locs 0 0 (MQ below (va_Qr (fun u : Nat × hp => Q u.1 u.2) (fun u a t => a = G.2.2 u.1 ∧ kB SC G u.2 t) (aS SC G)) args s 0 0 (aS SC G)) (F0 m 0 ls []) := by
  have hx := C.1
  have hb := C.2.1
  unfold w_X5_exchange_0 at hq
  refine lv_aload_n hx hb dX5_exchange_0 rfl (lv_at hl 0 rfl) ?_
  refine gt5_4 C hK hW (rfl : shC 2 = 5) (List.mem_cons_of_mem _ mw48) (fun _ h9 => List.mem_cons_of_mem _ (inU_wsX50 _ h9)) dX5_exchange_1 ?_
  have hr1 := hq.1
  have hq := hq.2
  refine lv_astore_n (lv' := [(2, .ref (G.2.2 (gR h 1))), (0, .ref (G.2.2 2)), (1, .ref (G.2.2 o1))]) hx hb dX5_exchange_4 rfl hl (by decide) rfl (fun ls hl => ?_)
  refine lv_aload_n hx hb dX5_exchange_5 rfl (lv_at hl 1 rfl) ?_
  refine lv_aload_n hx hb dX5_exchange_6 rfl (lv_at hl 2 rfl) ?_
  refine pt5_4 C hK hW (List.mem_cons_of_mem _ mw48) (fun _ h9 => List.mem_cons_of_mem _ (inU_wsX50 _ h9)) dX5_exchange_7 (fun h2 H locs eh2 hW => ?_)
  have hq := hq h2 eh2
  refine lv_aload_n hx hb dX5_exchange_10 rfl (lv_at hl 0 rfl) ?_
  exact k_aret rfl C hW dX5_exchange_11 hq
theorem c_X5_exchange (l : Launch) (G : wG) {o1 : Nat} (ho1 : shC o1 = 7) (h : hp) (Q : Nat → hp → Prop) (hq : w_X5_exchange o1 h Q) : ctR l SC G yX5_exchange wUX5_exchange rmX5_exchange h [.ref (G.2.2 2), .ref (G.2.2 o1)] Q := by
  refine k_start (cc := cX5_exchange) (maxL := 3) (rt := (some (.object "TwoAsks$Text"))) (own := RX5) (by decide +kernel) rfl rfl (Nat.le_of_ble_eq_true rfl) ?_
  intro p e s m below meth c ls C hK hW hl
  exact k_X5_exchange_0 ho1 C hK hW hl hq
theorem k_X6_isSet_0 {o : Nat} (ho : shC o = 6) {Q : Int32 → Prop} {x1 : Int32} {h : hp} (C : kC p s m args meth c cX6_isSet 2 (some .boolean) RX6 wUX6_isSet) (hK : kK G s) {H : Heap} {locs : List Loc} {ls : Array Slot} (hW : kW SC G h (aS SC G) s H locs) (hl : lv_has ls 2 [(0, .ref (G.2.2 o)), (1, .int x1)]) (hq : w_X6_isSet_0 o Q x1 h) : W p l e rmX6_isSet s m args below meth c H locs 0 0 (MQ below (va_Qi (fun r9 h9 => h9 = h ∧ Q r9) (kB SC G) (aS SC G)) args s 0 0 (aS SC G)) (F0 m 0 ls []) := by
  have hx := C.1
  have hb := C.2.1
  unfold w_X6_isSet_0 at hq
  refine lv_iload_n hx hb dX6_isSet_0 rfl (lv_at hl 1 rfl) ?_
  refine lv_if_le (tgt := 27) hx hb dX6_isSet_1 (by decide) (fun c1 => ?_) (fun c1 => ?_)
  · have hq := hq.1 c1
    refine lv_iconst (v := 0) hx hb dX6_isSet_27 (by decide) ?_
    exact k_zret rfl isZ_0.1 C hW dX6_isSet_28 ⟨rfl, hq⟩
  · have hq := hq.2 c1
    refine lv_iload_n hx hb dX6_isSet_4 rfl (lv_at hl 1 rfl) ?_
    refine lv_iconst (v := 1) hx hb dX6_isSet_5 (by decide) ?_
    refine lv_aload_n hx hb dX6_isSet_6 rfl (lv_at hl 0 rfl) ?_
    refine gt6_0 C hK hW ho (List.mem_cons_of_mem _ mw93) (fun _ h9 => List.mem_cons_of_mem _ (inU_wsX60 _ h9)) dX6_isSet_7 ?_
    refine k_ishl hx hb dX6_isSet_10 ?_
    refine lv_icmp_ge (tgt := 27) hx hb dX6_isSet_11 (by decide) (fun c2 => ?_) (fun c2 => ?_)
    · have hq := hq.1 c2
      refine lv_iconst (v := 0) hx hb dX6_isSet_27 (by decide) ?_
      exact k_zret rfl isZ_0.1 C hW dX6_isSet_28 ⟨rfl, hq⟩
    · have hq := hq.2 c2
      refine lv_iload_n hx hb dX6_isSet_14 rfl (lv_at hl 1 rfl) ?_
      refine k_ci hW (va_runS (As := [.int x1]) (rest := []) (k_fix C) (c_J6_bitCount_0f7a4 l G h x1 _ hq) (va_cwS 1 C.2.2.2.2.2.1 (gU_S mw1230 mw1231 mw1232 mw1233) rfl rfl rfl (by decide +kernel) ⟨Nat.le_of_ble_eq_true rfl, Nat.le_of_ble_eq_true rfl⟩) (k_preS hK hW) rfl rfl hl.1 rfl (lv_room (Nat.le_of_ble_eq_true rfl)) dX6_isSet_15 ⟨Nat.le_refl 0, Nat.le_refl 0⟩) (fun r3 h4 H locs hq hW => ?_)
      rw [hq.1] at hW
      have hq := hq.2
      refine lv_bipush (v := 6) hx hb dX6_isSet_18 (by decide) ?_
      refine lv_icmp_gt (tgt := 27) hx hb dX6_isSet_20 (by decide) (fun c5 => ?_) (fun c5 => ?_)
      · have hq := hq.1 c5
        refine lv_iconst (v := 0) hx hb dX6_isSet_27 (by decide) ?_
        exact k_zret rfl isZ_0.1 C hW dX6_isSet_28 ⟨rfl, hq⟩
      · have hq := hq.2 c5
        refine lv_iconst (v := 1) hx hb dX6_isSet_23 (by decide) ?_
        refine lv_goto (tgt := 28) hx hb dX6_isSet_24 (by decide) ?_
        exact k_zret rfl isZ_1.1 C hW dX6_isSet_28 ⟨rfl, hq⟩
theorem c_X6_isSet (l : Launch) (G : wG) {o : Nat} (ho : shC o = 6) (h : hp) (x1 : Int32) (Q : Int32 → Prop) (hq : w_X6_isSet o h x1 Q) : ctI l SC G yX6_isSet wUX6_isSet rmX6_isSet h [.ref (G.2.2 o), .int x1] (fun r9 h9 => h9 = h ∧ Q r9) := by
  refine k_start (cc := cX6_isSet) (maxL := 2) (rt := (some .boolean)) (own := RX6) (by decide +kernel) rfl rfl (Nat.le_of_ble_eq_true rfl) ?_
  intro p e s m below meth c ls C hK hW hl
  exact k_X6_isSet_0 ho C hK hW hl hq
theorem k_X6_isIn_0 {Q : Int32 → Prop} {x0 : Int32} {x1 : Int32} {h : hp} (C : kC p s m args meth c cX6_isIn 2 (some .boolean) RX6 wUX6_isIn) (hK : kK G s) {H : Heap} {locs : List Loc} {ls : Array Slot} (hW : kW SC G h (aS SC G) s H locs) (hl : lv_has ls 2 [(0, .int x0), (1, .int x1)]) (hq : w_X6_isIn_0 Q x0 x1) : W p l e rmX6_isIn s m args below meth c H locs 0 0 (MQ below (va_Qi (fun r9 h9 => h9 = h ∧ Q r9) (kB SC G) (aS SC G)) args s 0 0 (aS SC G)) (F0 m 0 ls []) := by
  have hx := C.1
  have hb := C.2.1
  unfold w_X6_isIn_0 at hq
  refine lv_iload_n hx hb dX6_isIn_0 rfl (lv_at hl 0 rfl) ?_
  refine lv_iload_n hx hb dX6_isIn_1 rfl (lv_at hl 1 rfl) ?_
  refine k_ishr hx hb dX6_isIn_2 ?_
  refine lv_iconst (v := 1) hx hb dX6_isIn_3 (by decide) ?_
  refine lv_iand hx hb dX6_isIn_4 ?_
  refine lv_if_eq (tgt := 12) hx hb dX6_isIn_5 (by decide) (fun c1 => ?_) (fun c1 => ?_)
  · have hq := hq.1 c1
    refine lv_iconst (v := 0) hx hb dX6_isIn_12 (by decide) ?_
    exact k_zret rfl isZ_0.1 C hW dX6_isIn_13 ⟨rfl, hq⟩
  · have hq := hq.2 c1
    refine lv_iconst (v := 1) hx hb dX6_isIn_8 (by decide) ?_
    refine lv_goto (tgt := 13) hx hb dX6_isIn_9 (by decide) ?_
    exact k_zret rfl isZ_1.1 C hW dX6_isIn_13 ⟨rfl, hq⟩
theorem c_X6_isIn (l : Launch) (G : wG) (h : hp) (x0 : Int32) (x1 : Int32) (Q : Int32 → Prop) (hq : w_X6_isIn x0 x1 Q) : ctI l SC G yX6_isIn wUX6_isIn rmX6_isIn h [.int x0, .int x1] (fun r9 h9 => h9 = h ∧ Q r9) := by
  refine k_start (cc := cX6_isIn) (maxL := 2) (rt := (some .boolean)) (own := RX6) (by decide +kernel) rfl rfl (Nat.le_of_ble_eq_true rfl) ?_
  intro p e s m below meth c ls C hK hW hl
  exact k_X6_isIn_0 C hK hW hl hq
theorem k_X6_restOf_0 {o : Nat} (ho : shC o = 6) {Q : Int32 → Prop} {x1 : Int64} {h : hp} (C : kC p s m args meth c cX6_restOf 3 (some .int) RX6 wUX6_restOf) (hK : kK G s) {H : Heap} {locs : List Loc} {ls : Array Slot} (hW : kW SC G h (aS SC G) s H locs) (hl : lv_has ls 3 [(0, .ref (G.2.2 o)), (1, .long x1)]) (hq : w_X6_restOf_0 o Q x1 h) : W p l e rmX6_restOf s m args below meth c H locs 0 0 (MQ below (va_Qi (fun r9 h9 => h9 = h ∧ Q r9) (kB SC G) (aS SC G)) args s 0 0 (aS SC G)) (F0 m 0 ls []) := by
  have hx := C.1
  have hb := C.2.1
  unfold w_X6_restOf_0 at hq
  refine lv_aload_n hx hb dX6_restOf_0 rfl (lv_at hl 0 rfl) ?_
  refine gt6_1 C hK hW ho (List.mem_cons_of_mem _ mw94) (fun _ h9 => List.mem_cons_of_mem _ (inU_wsX60 _ h9)) dX6_restOf_1 ?_
  refine lv_iconst (v := 2) hx hb dX6_restOf_4 (by decide) ?_
  refine lv_icmp_ge (tgt := 12) hx hb dX6_restOf_5 (by decide) (fun c1 => ?_) (fun c1 => ?_)
  · have hq := hq.1 c1
    refine lv_lload_n hx hb dX6_restOf_12 rfl (lv_at hl 1 rfl) ?_
    refine lv_aload_n hx hb dX6_restOf_13 rfl (lv_at hl 0 rfl) ?_
    refine gt6_1 C hK hW ho (List.mem_cons_of_mem _ mw94) (fun _ h9 => List.mem_cons_of_mem _ (inU_wsX60 _ h9)) dX6_restOf_14 ?_
    refine lv_i2l (v := (gI h o 1).toInt64) hx hb dX6_restOf_17 rfl ?_
    refine k_cl hW (va_runS (As := [.long x1, .long ((gI h o 1).toInt64)]) (rest := []) (k_fix C) (c_J9_floorMod_f86c9 l G h x1 ((gI h o 1).toInt64) _ hq) (va_cwS 2 C.2.2.2.2.2.1 (gU_S mw1254 mw1255 mw1256 mw1257) rfl rfl rfl (by decide +kernel) ⟨Nat.le_of_ble_eq_true rfl, Nat.le_of_ble_eq_true rfl⟩) (k_preS hK hW) rfl rfl hl.1 rfl (lv_room (Nat.le_of_ble_eq_true rfl)) dX6_restOf_18 ⟨Nat.le_refl 0, Nat.le_refl 0⟩) (fun r2 h3 H locs hq hW => ?_)
    rw [hq.1] at hW
    have hq := hq.2
    refine lv_l2i (v := r2.toInt32) hx hb dX6_restOf_21 rfl ?_
    exact k_iret rfl C hW dX6_restOf_22 ⟨rfl, hq⟩
  · have hq := hq.2 c1
    refine lv_iconst (v := 0) hx hb dX6_restOf_8 (by decide) ?_
    refine lv_goto (tgt := 22) hx hb dX6_restOf_9 (by decide) ?_
    exact k_iret rfl C hW dX6_restOf_22 ⟨rfl, hq⟩
theorem c_X6_restOf (l : Launch) (G : wG) {o : Nat} (ho : shC o = 6) (h : hp) (x1 : Int64) (Q : Int32 → Prop) (hq : w_X6_restOf o h x1 Q) : ctI l SC G yX6_restOf wUX6_restOf rmX6_restOf h [.ref (G.2.2 o), .long x1] (fun r9 h9 => h9 = h ∧ Q r9) := by
  refine k_start (cc := cX6_restOf) (maxL := 3) (rt := (some .int)) (own := RX6) (by decide +kernel) rfl rfl (Nat.le_of_ble_eq_true rfl) ?_
  intro p e s m below meth c ls C hK hW hl
  exact k_X6_restOf_0 ho C hK hW hl hq
theorem k_X6_othersProduct_b53 {o : Nat} (ho : shC o = 6) {Q : Int32 → hp → Prop} {X20 : Int32 × Int32 × hp → Prop} {X53 : Int32 × hp → Prop} {x1 : Int32} {x2 : Int32} {x3 : Int32} {x4 : Int32} (C : kC p s m args meth c cX6_othersProduct 6 (some .int) RX6 wUX6_othersProduct) (hK : kK G s) (hX20 : ∀ (x3 : Int32) (x4 : Int32) (h : hp) (H : Heap) (locs : List Loc) (ls : Array Slot), kW SC G h (aS SC G) s H locs → lv_has ls 6 [(0, .ref (G.2.2 o)), (1, .int x1), (2, .int x2), (3, .int x3), (4, .int x4)] → X20 (x3, x4, h) → W p l e rmX6_othersProduct s m args below meth c H locs 0 0 (MQ below (va_Qi Q (kB SC G) (aS SC G)) args s 0 0 (aS SC G)) (F0 m 20 ls [])) (hX53 : ∀ (x5 : Int32) (h : hp) (H : Heap) (locs : List Loc) (ls : Array Slot), kW SC G h (aS SC G) s H locs → lv_has ls 6 [(0, .ref (G.2.2 o)), (1, .int x1), (2, .int x2), (3, .int x3), (4, .int x4), (5, .int x5)] → X53 (x5, h) → W p l e rmX6_othersProduct s m args below meth c H locs 0 0 (MQ below (va_Qi Q (kB SC G) (aS SC G)) args s 0 0 (aS SC G)) (F0 m 53 ls [])) {x5 : Int32} {h : hp} {H : Heap} {locs : List Loc} {ls : Array Slot} (hW : kW SC G h (aS SC G) s H locs) (hl : lv_has ls 6 [(0, .ref (G.2.2 o)), (1, .int x1), (2, .int x2), (3, .int x3), (4, .int x4), (5, .int x5)]) (hq : w_X6_othersProduct_b53 o Q X20 x1 x2 x3 x4 X53 x5 h) : W p l e rmX6_othersProduct s m args below meth c H locs 0 0 (MQ below (va_Qi Q (kB SC G) (aS SC G)) args s 0 0 (aS SC G)) (F0 m 53 ls []) := by
  have hx := C.1
  have hb := C.2.1
  unfold w_X6_othersProduct_b53 at hq
  refine lv_iload hx hb dX6_othersProduct_53 (lv_at hl 5 rfl) ?_
  refine lv_if_le (tgt := 101) hx hb dX6_othersProduct_55 (by decide) (fun c11 => ?_) (fun c11 => ?_)
  · have hq := hq.1 c11
    refine lv_aload_n hx hb dX6_othersProduct_101 rfl (lv_at hl 0 rfl) ?_
    refine gt6_6 C hK hW ho (List.mem_cons_of_mem _ mw99) (fun _ h9 => List.mem_cons_of_mem _ (inU_wsX60 _ h9)) dX6_othersProduct_102 ?_
    refine lv_iconst (v := 0) hx hb dX6_othersProduct_105 (by decide) ?_
    refine lv_aload_n hx hb dX6_othersProduct_106 rfl (lv_at hl 0 rfl) ?_
    refine lv_aload_n hx hb dX6_othersProduct_107 rfl (lv_at hl 0 rfl) ?_
    refine gt6_2 C hK hW ho (List.mem_cons_of_mem _ mw95) (fun _ h9 => List.mem_cons_of_mem _ (inU_wsX60 _ h9)) dX6_othersProduct_108 ?_
    refine lv_iload hx hb dX6_othersProduct_111 (lv_at hl 4 rfl) ?_
    refine k_iald C hK hW (shC_lt (sl6_2 ho).1 (by decide)) (ceC_14 (sl6_2 ho).1 (sl6_2 ho).2) hq.1 dX6_othersProduct_113 ?_
    have hq := hq.2
    refine lv_ineg hx hb dX6_othersProduct_114 ?_
    refine lv_aload_n hx hb dX6_othersProduct_115 rfl (lv_at hl 0 rfl) ?_
    refine gt6_6 C hK hW ho (List.mem_cons_of_mem _ mw99) (fun _ h9 => List.mem_cons_of_mem _ (inU_wsX60 _ h9)) dX6_othersProduct_116 ?_
    refine lv_iconst (v := 0) hx hb dX6_othersProduct_119 (by decide) ?_
    refine k_iald C hK hW (shC_lt (sl6_6 ho).1 (by decide)) (ceC_14 (sl6_6 ho).1 (sl6_6 ho).2) hq.1 dX6_othersProduct_120 ?_
    have hq := hq.2
    refine lv_imul hx hb dX6_othersProduct_121 ?_
    refine lv_i2l (v := ((-(gI h (o + 1) (ix x4))) * (gI h (o + 5) (ix 0))).toInt64) hx hb dX6_othersProduct_122 rfl ?_
    refine k_ci hW (va_runV (As := [.long (((-(gI h (o + 1) (ix x4))) * (gI h (o + 5) (ix 0))).toInt64)]) (rest := [.int 0, .ref (G.2.2 (o + 5))]) (k_fix C) (c_X6_restOf l G ho h (((-(gI h (o + 1) (ix x4))) * (gI h (o + 5) (ix 0))).toInt64) _ hq) (cwV 1 C.2.2.2.2.2.1 (gU_V mw1250 mw1251 mw1252 mw73 mw1253) rfl rfl rfl (by decide +kernel) ⟨Nat.le_of_ble_eq_true rfl, Nat.le_of_ble_eq_true rfl⟩) (k_preV hK hW (shC_lt ho (by decide)) (ceC_6 ho) (q := (RX6, TX6, 7)) rfl) rfl rfl hl.1 rfl (lv_room (Nat.le_of_ble_eq_true rfl)) dX6_othersProduct_123 ⟨Nat.le_refl 0, Nat.le_refl 0⟩) (fun r12 h13 H locs hq hW => ?_)
    rw [hq.1] at hW
    have hq := hq.2
    refine k_iast okC C hK hW (shC_lt (sl6_6 ho).1 (by decide)) (fun g9 => ceC_14 (sl6_6 ho).1 (sl6_6 ho).2) hq.1 dX6_othersProduct_126 (fun H locs hW => ?_)
    have hq := hq.2
    obtain ⟨h14, eh14⟩ : ∃ z : hp, z = sI h (o + 5) (ix 0) r12 := ⟨_, rfl⟩
    rw [← eh14] at hW
    have hq := hq h14 eh14
    refine lv_aload_n hx hb dX6_othersProduct_127 rfl (lv_at hl 0 rfl) ?_
    refine lv_iload_n hx hb dX6_othersProduct_128 rfl (lv_at hl 3 rfl) ?_
    refine lv_aload_n hx hb dX6_othersProduct_129 rfl (lv_at hl 0 rfl) ?_
    refine gt6_2 C hK hW ho (List.mem_cons_of_mem _ mw95) (fun _ h9 => List.mem_cons_of_mem _ (inU_wsX60 _ h9)) dX6_othersProduct_130 ?_
    refine lv_iload_n hx hb dX6_othersProduct_133 rfl (lv_at hl 2 rfl) ?_
    refine k_iald C hK hW (shC_lt (sl6_2 ho).1 (by decide)) (ceC_14 (sl6_2 ho).1 (sl6_2 ho).2) hq.1 dX6_othersProduct_134 ?_
    have hq := hq.2
    refine lv_aload_n hx hb dX6_othersProduct_135 rfl (lv_at hl 0 rfl) ?_
    refine gt6_2 C hK hW ho (List.mem_cons_of_mem _ mw95) (fun _ h9 => List.mem_cons_of_mem _ (inU_wsX60 _ h9)) dX6_othersProduct_136 ?_
    refine lv_iload hx hb dX6_othersProduct_139 (lv_at hl 4 rfl) ?_
    refine k_iald C hK hW (shC_lt (sl6_2 ho).1 (by decide)) (ceC_14 (sl6_2 ho).1 (sl6_2 ho).2) hq.1 dX6_othersProduct_141 ?_
    have hq := hq.2
    refine lv_isub hx hb dX6_othersProduct_142 ?_
    refine lv_imul hx hb dX6_othersProduct_143 ?_
    refine lv_i2l (v := (x3 * ((gI h14 (o + 1) (ix x2)) - (gI h14 (o + 1) (ix x4)))).toInt64) hx hb dX6_othersProduct_144 rfl ?_
    refine k_ci hW (va_runV (As := [.long ((x3 * ((gI h14 (o + 1) (ix x2)) - (gI h14 (o + 1) (ix x4)))).toInt64)]) (rest := []) (k_fix C) (c_X6_restOf l G ho h14 ((x3 * ((gI h14 (o + 1) (ix x2)) - (gI h14 (o + 1) (ix x4)))).toInt64) _ hq) (cwV 1 C.2.2.2.2.2.1 (gU_V mw1250 mw1251 mw1252 mw73 mw1253) rfl rfl rfl (by decide +kernel) ⟨Nat.le_of_ble_eq_true rfl, Nat.le_of_ble_eq_true rfl⟩) (k_preV hK hW (shC_lt ho (by decide)) (ceC_6 ho) (q := (RX6, TX6, 7)) rfl) rfl rfl hl.1 rfl (lv_room (Nat.le_of_ble_eq_true rfl)) dX6_othersProduct_145 ⟨Nat.le_refl 0, Nat.le_refl 0⟩) (fun r15 h16 H locs hq hW => ?_)
    rw [hq.1] at hW
    have hq := hq.2
    refine lv_istore_n (lv' := [(3, .int r15), (0, .ref (G.2.2 o)), (1, .int x1), (2, .int x2), (4, .int x4), (5, .int x5)]) hx hb dX6_othersProduct_148 rfl hl (by decide) rfl (fun ls hl => ?_)
    obtain ⟨x4_17, ex4_17⟩ : ∃ y : Int32, y = x4 + 1 := ⟨_, rfl⟩
    have hq := hq x4_17 ex4_17
    refine lv_iinc (v := x4_17) (lv' := [(4, .int x4_17), (3, .int r15), (0, .ref (G.2.2 o)), (1, .int x1), (2, .int x2), (5, .int x5)]) hx hb dX6_othersProduct_149 hl (k := 4) rfl (by rw [ex4_17]; rfl) (by decide) rfl (fun ls hl => ?_)
    refine lv_goto (tgt := 20) hx hb dX6_othersProduct_152 (by decide) ?_
    exact hX20 _ _ _ _ _ _ hW (lv_sub hl [2, 3, 4, 1, 0] rfl) hq
  · have hq := hq.2 c11
    refine lv_aload_n hx hb dX6_othersProduct_58 rfl (lv_at hl 0 rfl) ?_
    refine gt6_6 C hK hW ho (List.mem_cons_of_mem _ mw99) (fun _ h9 => List.mem_cons_of_mem _ (inU_wsX60 _ h9)) dX6_othersProduct_59 ?_
    refine lv_iload hx hb dX6_othersProduct_62 (lv_at hl 5 rfl) ?_
    refine lv_aload_n hx hb dX6_othersProduct_64 rfl (lv_at hl 0 rfl) ?_
    refine lv_aload_n hx hb dX6_othersProduct_65 rfl (lv_at hl 0 rfl) ?_
    refine gt6_6 C hK hW ho (List.mem_cons_of_mem _ mw99) (fun _ h9 => List.mem_cons_of_mem _ (inU_wsX60 _ h9)) dX6_othersProduct_66 ?_
    refine lv_iload hx hb dX6_othersProduct_69 (lv_at hl 5 rfl) ?_
    refine lv_iconst (v := 1) hx hb dX6_othersProduct_71 (by decide) ?_
    refine lv_isub hx hb dX6_othersProduct_72 ?_
    refine k_iald C hK hW (shC_lt (sl6_6 ho).1 (by decide)) (ceC_14 (sl6_6 ho).1 (sl6_6 ho).2) hq.1 dX6_othersProduct_73 ?_
    have hq := hq.2
    refine lv_aload_n hx hb dX6_othersProduct_74 rfl (lv_at hl 0 rfl) ?_
    refine gt6_2 C hK hW ho (List.mem_cons_of_mem _ mw95) (fun _ h9 => List.mem_cons_of_mem _ (inU_wsX60 _ h9)) dX6_othersProduct_75 ?_
    refine lv_iload hx hb dX6_othersProduct_78 (lv_at hl 4 rfl) ?_
    refine k_iald C hK hW (shC_lt (sl6_2 ho).1 (by decide)) (ceC_14 (sl6_2 ho).1 (sl6_2 ho).2) hq.1 dX6_othersProduct_80 ?_
    have hq := hq.2
    refine lv_aload_n hx hb dX6_othersProduct_81 rfl (lv_at hl 0 rfl) ?_
    refine gt6_6 C hK hW ho (List.mem_cons_of_mem _ mw99) (fun _ h9 => List.mem_cons_of_mem _ (inU_wsX60 _ h9)) dX6_othersProduct_82 ?_
    refine lv_iload hx hb dX6_othersProduct_85 (lv_at hl 5 rfl) ?_
    refine k_iald C hK hW (shC_lt (sl6_6 ho).1 (by decide)) (ceC_14 (sl6_6 ho).1 (sl6_6 ho).2) hq.1 dX6_othersProduct_87 ?_
    have hq := hq.2
    refine lv_imul hx hb dX6_othersProduct_88 ?_
    refine lv_isub hx hb dX6_othersProduct_89 ?_
    refine lv_i2l (v := ((gI h (o + 5) (ix (x5 - 1))) - ((gI h (o + 1) (ix x4)) * (gI h (o + 5) (ix x5)))).toInt64) hx hb dX6_othersProduct_90 rfl ?_
    refine k_ci hW (va_runV (As := [.long (((gI h (o + 5) (ix (x5 - 1))) - ((gI h (o + 1) (ix x4)) * (gI h (o + 5) (ix x5)))).toInt64)]) (rest := [.int x5, .ref (G.2.2 (o + 5))]) (k_fix C) (c_X6_restOf l G ho h (((gI h (o + 5) (ix (x5 - 1))) - ((gI h (o + 1) (ix x4)) * (gI h (o + 5) (ix x5)))).toInt64) _ hq) (cwV 1 C.2.2.2.2.2.1 (gU_V mw1250 mw1251 mw1252 mw73 mw1253) rfl rfl rfl (by decide +kernel) ⟨Nat.le_of_ble_eq_true rfl, Nat.le_of_ble_eq_true rfl⟩) (k_preV hK hW (shC_lt ho (by decide)) (ceC_6 ho) (q := (RX6, TX6, 7)) rfl) rfl rfl hl.1 rfl (lv_room (Nat.le_of_ble_eq_true rfl)) dX6_othersProduct_91 ⟨Nat.le_refl 0, Nat.le_refl 0⟩) (fun r18 h19 H locs hq hW => ?_)
    rw [hq.1] at hW
    have hq := hq.2
    refine k_iast okC C hK hW (shC_lt (sl6_6 ho).1 (by decide)) (fun g9 => ceC_14 (sl6_6 ho).1 (sl6_6 ho).2) hq.1 dX6_othersProduct_94 (fun H locs hW => ?_)
    have hq := hq.2
    obtain ⟨h20, eh20⟩ : ∃ z : hp, z = sI h (o + 5) (ix x5) r18 := ⟨_, rfl⟩
    rw [← eh20] at hW
    have hq := hq h20 eh20
    obtain ⟨x5_21, ex5_21⟩ : ∃ y : Int32, y = x5 + (-1) := ⟨_, rfl⟩
    have hq := hq x5_21 ex5_21
    refine lv_iinc (v := x5_21) (lv' := [(5, .int x5_21), (0, .ref (G.2.2 o)), (1, .int x1), (2, .int x2), (3, .int x3), (4, .int x4)]) hx hb dX6_othersProduct_95 hl (k := 5) rfl (by rw [ex5_21]; rfl) (by decide) rfl (fun ls hl => ?_)
    refine lv_goto (tgt := 53) hx hb dX6_othersProduct_98 (by decide) ?_
    exact hX53 _ _ _ _ _ hW (lv_sub hl [1, 2, 3, 4, 5, 0] rfl) hq
theorem k_X6_othersProduct_53 {o : Nat} (ho : shC o = 6) {Q : Int32 → hp → Prop} {X20 : Int32 × Int32 × hp → Prop} {x1 : Int32} {x2 : Int32} {x3 : Int32} {x4 : Int32} (C : kC p s m args meth c cX6_othersProduct 6 (some .int) RX6 wUX6_othersProduct) (hK : kK G s) (hX20 : ∀ (x3 : Int32) (x4 : Int32) (h : hp) (H : Heap) (locs : List Loc) (ls : Array Slot), kW SC G h (aS SC G) s H locs → lv_has ls 6 [(0, .ref (G.2.2 o)), (1, .int x1), (2, .int x2), (3, .int x3), (4, .int x4)] → X20 (x3, x4, h) → W p l e rmX6_othersProduct s m args below meth c H locs 0 0 (MQ below (va_Qi Q (kB SC G) (aS SC G)) args s 0 0 (aS SC G)) (F0 m 20 ls [])) {x5 : Int32} {h : hp} {H : Heap} {locs : List Loc} {ls : Array Slot} (hW : kW SC G h (aS SC G) s H locs) (hl : lv_has ls 6 [(0, .ref (G.2.2 o)), (1, .int x1), (2, .int x2), (3, .int x3), (4, .int x4), (5, .int x5)]) (hq : w_X6_othersProduct_53 o Q X20 x1 x2 x3 x4 x5 h) : W p l e rmX6_othersProduct s m args below meth c H locs 0 0 (MQ below (va_Qi Q (kB SC G) (aS SC G)) args s 0 0 (aS SC G)) (F0 m 53 ls []) := by
  have key := hq (fun (q : Int32 × hp) => ∀ (H : Heap) (locs : List Loc) (ls : Array Slot), kW SC G q.2 (aS SC G) s H locs → lv_has ls 6 [(0, .ref (G.2.2 o)), (1, .int x1), (2, .int x2), (3, .int x3), (4, .int x4), (5, .int q.1)] → W p l e rmX6_othersProduct s m args below meth c H locs 0 0 (MQ below (va_Qi Q (kB SC G) (aS SC G)) args s 0 0 (aS SC G)) (F0 m 53 ls []))
    (fun q hq H locs ls hW hl => k_X6_othersProduct_b53 ho C hK hX20 (fun x5 h H locs ls hW hl hI => hI H locs ls hW hl) hW hl hq)
  exact key _ _ _ hW hl
theorem k_X6_othersProduct_b20 {o : Nat} (ho : shC o = 6) {Q : Int32 → hp → Prop} {X20 : Int32 × Int32 × hp → Prop} {x1 : Int32} {x2 : Int32} (C : kC p s m args meth c cX6_othersProduct 6 (some .int) RX6 wUX6_othersProduct) (hK : kK G s) (hX20 : ∀ (x3 : Int32) (x4 : Int32) (h : hp) (H : Heap) (locs : List Loc) (ls : Array Slot), kW SC G h (aS SC G) s H locs → lv_has ls 6 [(0, .ref (G.2.2 o)), (1, .int x1), (2, .int x2), (3, .int x3), (4, .int x4)] → X20 (x3, x4, h) → W p l e rmX6_othersProduct s m args below meth c H locs 0 0 (MQ below (va_Qi Q (kB SC G) (aS SC G)) args s 0 0 (aS SC G)) (F0 m 20 ls [])) {x3 : Int32} {x4 : Int32} {h : hp} {H : Heap} {locs : List Loc} {ls : Array Slot} (hW : kW SC G h (aS SC G) s H locs) (hl : lv_has ls 6 [(0, .ref (G.2.2 o)), (1, .int x1), (2, .int x2), (3, .int x3), (4, .int x4)]) (hq : w_X6_othersProduct_b20 o Q x1 x2 X20 x3 x4 h) : W p l e rmX6_othersProduct s m args below meth c H locs 0 0 (MQ below (va_Qi Q (kB SC G) (aS SC G)) args s 0 0 (aS SC G)) (F0 m 20 ls []) := by
  have hx := C.1
  have hb := C.2.1
  unfold w_X6_othersProduct_b20 at hq
  refine lv_iload hx hb dX6_othersProduct_20 (lv_at hl 4 rfl) ?_
  refine lv_aload_n hx hb dX6_othersProduct_22 rfl (lv_at hl 0 rfl) ?_
  refine gt6_0 C hK hW ho (List.mem_cons_of_mem _ mw93) (fun _ h9 => List.mem_cons_of_mem _ (inU_wsX60 _ h9)) dX6_othersProduct_23 ?_
  refine lv_icmp_ge (tgt := 155) hx hb dX6_othersProduct_26 (by decide) (fun c3 => ?_) (fun c3 => ?_)
  · have hq := hq.1 c3
    refine lv_iload_n hx hb dX6_othersProduct_155 rfl (lv_at hl 3 rfl) ?_
    exact k_iret rfl C hW dX6_othersProduct_156 hq
  · have hq := hq.2 c3
    refine lv_iload hx hb dX6_othersProduct_29 (lv_at hl 4 rfl) ?_
    refine lv_iload_n hx hb dX6_othersProduct_31 rfl (lv_at hl 2 rfl) ?_
    refine lv_icmp_eq (tgt := 149) hx hb dX6_othersProduct_32 (by decide) (fun c4 => ?_) (fun c4 => ?_)
    · have hq := hq.1 c4
      obtain ⟨x4_5, ex4_5⟩ : ∃ y : Int32, y = x4 + 1 := ⟨_, rfl⟩
      have hq := hq x4_5 ex4_5
      refine lv_iinc (v := x4_5) (lv' := [(4, .int x4_5), (0, .ref (G.2.2 o)), (1, .int x1), (2, .int x2), (3, .int x3)]) hx hb dX6_othersProduct_149 hl (k := 4) rfl (by rw [ex4_5]; rfl) (by decide) rfl (fun ls hl => ?_)
      refine lv_goto (tgt := 20) hx hb dX6_othersProduct_152 (by decide) ?_
      exact hX20 _ _ _ _ _ _ hW (lv_sub hl [1, 2, 3, 4, 0] rfl) hq
    · have hq := hq.2 c4
      refine lv_iload_n hx hb dX6_othersProduct_35 rfl (lv_at hl 1 rfl) ?_
      refine lv_iload hx hb dX6_othersProduct_36 (lv_at hl 4 rfl) ?_
      refine k_ci hW (va_runS (As := [.int x1, .int x4]) (rest := []) (k_fix C) (c_X6_isIn l G h x1 x4 _ hq) (va_cwS 2 C.2.2.2.2.2.1 (gU_S mw1243 mw1244 mw73 mw1245) rfl rfl rfl (by decide +kernel) ⟨Nat.le_of_ble_eq_true rfl, Nat.le_of_ble_eq_true rfl⟩) (k_preS hK hW) rfl rfl hl.1 rfl (lv_room (Nat.le_of_ble_eq_true rfl)) dX6_othersProduct_38 ⟨Nat.le_refl 0, Nat.le_refl 0⟩) (fun r6 h7 H locs hq hW => ?_)
      rw [hq.1] at hW
      have hq := hq.2
      refine lv_if_eq (tgt := 149) hx hb dX6_othersProduct_41 (by decide) (fun c8 => ?_) (fun c8 => ?_)
      · have hq := hq.1 c8
        obtain ⟨x4_9, ex4_9⟩ : ∃ y : Int32, y = x4 + 1 := ⟨_, rfl⟩
        have hq := hq x4_9 ex4_9
        refine lv_iinc (v := x4_9) (lv' := [(4, .int x4_9), (0, .ref (G.2.2 o)), (1, .int x1), (2, .int x2), (3, .int x3)]) hx hb dX6_othersProduct_149 hl (k := 4) rfl (by rw [ex4_9]; rfl) (by decide) rfl (fun ls hl => ?_)
        refine lv_goto (tgt := 20) hx hb dX6_othersProduct_152 (by decide) ?_
        exact hX20 _ _ _ _ _ _ hW (lv_sub hl [1, 2, 3, 4, 0] rfl) hq
      · have hq := hq.2 c8
        refine lv_aload_n hx hb dX6_othersProduct_44 rfl (lv_at hl 0 rfl) ?_
        refine gt6_6 C hK hW ho (List.mem_cons_of_mem _ mw99) (fun _ h9 => List.mem_cons_of_mem _ (inU_wsX60 _ h9)) dX6_othersProduct_45 ?_
        refine k_alen C hK hW (shC_lt (sl6_6 ho).1 (by decide)) (t0 := 1) rfl (ceC_14 (sl6_6 ho).1 (sl6_6 ho).2) (v := 7) (by first | rfl | decide) dX6_othersProduct_48 ?_
        refine lv_iconst (v := 1) hx hb dX6_othersProduct_49 (by decide) ?_
        refine lv_isub hx hb dX6_othersProduct_50 ?_
        refine lv_topi (fun x5_10 ex5_10 => ?_)
        have hq := hq x5_10 ex5_10
        refine lv_istore (lv' := [(5, .int x5_10), (0, .ref (G.2.2 o)), (1, .int x1), (2, .int x2), (3, .int x3), (4, .int x4)]) hx hb dX6_othersProduct_51 hl (by decide) rfl (fun ls hl => ?_)
        exact k_X6_othersProduct_53 ho C hK hX20 hW (lv_sub hl [1, 2, 3, 4, 5, 0] rfl) hq
theorem k_X6_othersProduct_20 {o : Nat} (ho : shC o = 6) {Q : Int32 → hp → Prop} {x1 : Int32} {x2 : Int32} (C : kC p s m args meth c cX6_othersProduct 6 (some .int) RX6 wUX6_othersProduct) (hK : kK G s) {x3 : Int32} {x4 : Int32} {h : hp} {H : Heap} {locs : List Loc} {ls : Array Slot} (hW : kW SC G h (aS SC G) s H locs) (hl : lv_has ls 6 [(0, .ref (G.2.2 o)), (1, .int x1), (2, .int x2), (3, .int x3), (4, .int x4)]) (hq : w_X6_othersProduct_20 o Q x1 x2 x3 x4 h) : W p l e rmX6_othersProduct s m args below meth c H locs 0 0 (MQ below (va_Qi Q (kB SC G) (aS SC G)) args s 0 0 (aS SC G)) (F0 m 20 ls []) := by
  have key := hq (fun (q : Int32 × Int32 × hp) => ∀ (H : Heap) (locs : List Loc) (ls : Array Slot), kW SC G q.2.2 (aS SC G) s H locs → lv_has ls 6 [(0, .ref (G.2.2 o)), (1, .int x1), (2, .int x2), (3, .int q.1), (4, .int q.2.1)] → W p l e rmX6_othersProduct s m args below meth c H locs 0 0 (MQ below (va_Qi Q (kB SC G) (aS SC G)) args s 0 0 (aS SC G)) (F0 m 20 ls []))
    (fun q hq H locs ls hW hl => k_X6_othersProduct_b20 ho C hK (fun x3 x4 h H locs ls hW hl hI => hI H locs ls hW hl) hW hl hq)
  exact key _ _ _ hW hl
theorem k_X6_othersProduct_0 {o : Nat} (ho : shC o = 6) {Q : Int32 → hp → Prop} {x1 : Int32} {x2 : Int32} {h : hp} (C : kC p s m args meth c cX6_othersProduct 6 (some .int) RX6 wUX6_othersProduct) (hK : kK G s) {H : Heap} {locs : List Loc} {ls : Array Slot} (hW : kW SC G h (aS SC G) s H locs) (hl : lv_has ls 6 [(0, .ref (G.2.2 o)), (1, .int x1), (2, .int x2)]) (hq : w_X6_othersProduct_0 o Q x1 x2 h) : W p l e rmX6_othersProduct s m args below meth c H locs 0 0 (MQ below (va_Qi Q (kB SC G) (aS SC G)) args s 0 0 (aS SC G)) (F0 m 0 ls []) := by
  have hx := C.1
  have hb := C.2.1
  unfold w_X6_othersProduct_0 at hq
  refine lv_aload_n hx hb dX6_othersProduct_0 rfl (lv_at hl 0 rfl) ?_
  refine gt6_6 C hK hW ho (List.mem_cons_of_mem _ mw99) (fun _ h9 => List.mem_cons_of_mem _ (inU_wsX60 _ h9)) dX6_othersProduct_1 ?_
  refine lv_iconst (v := 0) hx hb dX6_othersProduct_4 (by decide) ?_
  refine k_cv hW (va_runS (As := [.ref (G.2.2 (o + 5)), .int 0]) (rest := []) (k_fix C) (c_J7_fill_53178 l G (sl6_6 ho).1 (sl6_6 ho).2 h 0 _ hq) (va_cwS 2 C.2.2.2.2.2.1 (gU_S mw1242 mw1103 mw864 mw1104) rfl rfl rfl (by decide +kernel) ⟨Nat.le_of_ble_eq_true rfl, Nat.le_of_ble_eq_true rfl⟩) (k_preS hK hW) rfl rfl hl.1 rfl (lv_room (Nat.le_of_ble_eq_true rfl)) dX6_othersProduct_5 ⟨Nat.le_refl 0, Nat.le_refl 0⟩) (fun h1 H locs hq hW => ?_)
  refine lv_aload_n hx hb dX6_othersProduct_8 rfl (lv_at hl 0 rfl) ?_
  refine gt6_6 C hK hW ho (List.mem_cons_of_mem _ mw99) (fun _ h9 => List.mem_cons_of_mem _ (inU_wsX60 _ h9)) dX6_othersProduct_9 ?_
  refine lv_iconst (v := 0) hx hb dX6_othersProduct_12 (by decide) ?_
  refine lv_iconst (v := 1) hx hb dX6_othersProduct_13 (by decide) ?_
  refine k_iast okC C hK hW (shC_lt (sl6_6 ho).1 (by decide)) (fun g9 => ceC_14 (sl6_6 ho).1 (sl6_6 ho).2) hq.1 dX6_othersProduct_14 (fun H locs hW => ?_)
  have hq := hq.2
  obtain ⟨h2, eh2⟩ : ∃ z : hp, z = sI h1 (o + 5) (ix 0) 1 := ⟨_, rfl⟩
  rw [← eh2] at hW
  have hq := hq h2 eh2
  refine lv_iconst (v := 1) hx hb dX6_othersProduct_15 (by decide) ?_
  refine lv_istore_n (lv' := [(3, .int 1), (0, .ref (G.2.2 o)), (1, .int x1), (2, .int x2)]) hx hb dX6_othersProduct_16 rfl hl (by decide) rfl (fun ls hl => ?_)
  refine lv_iconst (v := 0) hx hb dX6_othersProduct_17 (by decide) ?_
  refine lv_istore (lv' := [(4, .int 0), (3, .int 1), (0, .ref (G.2.2 o)), (1, .int x1), (2, .int x2)]) hx hb dX6_othersProduct_18 hl (by decide) rfl (fun ls hl => ?_)
  exact k_X6_othersProduct_20 ho C hK hW (lv_sub hl [2, 3, 4, 1, 0] rfl) hq
theorem c_X6_othersProduct (l : Launch) (G : wG) {o : Nat} (ho : shC o = 6) (h : hp) (x1 : Int32) (x2 : Int32) (Q : Int32 → hp → Prop) (hq : w_X6_othersProduct o h x1 x2 Q) : ctI l SC G yX6_othersProduct wUX6_othersProduct rmX6_othersProduct h [.ref (G.2.2 o), .int x1, .int x2] Q := by
  refine k_start (cc := cX6_othersProduct) (maxL := 6) (rt := (some .int)) (own := RX6) (by decide +kernel) rfl rfl (Nat.le_of_ble_eq_true rfl) ?_
  intro p e s m below meth c ls C hK hW hl
  exact k_X6_othersProduct_0 ho C hK hW hl hq
theorem k_X6_turnedOver_b2 {o : Nat} (ho : shC o = 6) {Q : Int32 → Prop} {X2 : Int32 → Prop} {x1 : Int32} {h : hp} (C : kC p s m args meth c cX6_turnedOver 3 (some .int) RX6 wUX6_turnedOver) (hK : kK G s) (hX2 : ∀ (x2 : Int32) (H : Heap) (locs : List Loc) (ls : Array Slot), kW SC G h (aS SC G) s H locs → lv_has ls 3 [(0, .ref (G.2.2 o)), (1, .int x1), (2, .int x2)] → X2 x2 → W p l e rmX6_turnedOver s m args below meth c H locs 0 0 (MQ below (va_Qi (fun r9 h9 => h9 = h ∧ Q r9) (kB SC G) (aS SC G)) args s 0 0 (aS SC G)) (F0 m 2 ls [])) {x2 : Int32} {H : Heap} {locs : List Loc} {ls : Array Slot} (hW : kW SC G h (aS SC G) s H locs) (hl : lv_has ls 3 [(0, .ref (G.2.2 o)), (1, .int x1), (2, .int x2)]) (hq : w_X6_turnedOver_b2 o Q x1 h X2 x2) : W p l e rmX6_turnedOver s m args below meth c H locs 0 0 (MQ below (va_Qi (fun r9 h9 => h9 = h ∧ Q r9) (kB SC G) (aS SC G)) args s 0 0 (aS SC G)) (F0 m 2 ls []) := by
  have hx := C.1
  have hb := C.2.1
  unfold w_X6_turnedOver_b2 at hq
  refine lv_iload_n hx hb dX6_turnedOver_2 rfl (lv_at hl 2 rfl) ?_
  refine lv_aload_n hx hb dX6_turnedOver_3 rfl (lv_at hl 0 rfl) ?_
  refine gt6_1 C hK hW ho (List.mem_cons_of_mem _ mw94) (fun _ h9 => List.mem_cons_of_mem _ (inU_wsX60 _ h9)) dX6_turnedOver_4 ?_
  refine lv_icmp_ge (tgt := 30) hx hb dX6_turnedOver_7 (by decide) (fun c1 => ?_) (fun c1 => ?_)
  · have hq := hq.1 c1
    refine lv_iconst (v := 0) hx hb dX6_turnedOver_30 (by decide) ?_
    exact k_iret rfl C hW dX6_turnedOver_31 ⟨rfl, hq⟩
  · have hq := hq.2 c1
    refine lv_aload_n hx hb dX6_turnedOver_10 rfl (lv_at hl 0 rfl) ?_
    refine lv_iload_n hx hb dX6_turnedOver_11 rfl (lv_at hl 1 rfl) ?_
    refine lv_iload_n hx hb dX6_turnedOver_12 rfl (lv_at hl 2 rfl) ?_
    refine lv_imul hx hb dX6_turnedOver_13 ?_
    refine lv_i2l (v := (x1 * x2).toInt64) hx hb dX6_turnedOver_14 rfl ?_
    refine k_ci hW (va_runV (As := [.long ((x1 * x2).toInt64)]) (rest := []) (k_fix C) (c_X6_restOf l G ho h ((x1 * x2).toInt64) _ hq) (cwV 1 C.2.2.2.2.2.1 (gU_V mw1250 mw1251 mw1252 mw73 mw1253) rfl rfl rfl (by decide +kernel) ⟨Nat.le_of_ble_eq_true rfl, Nat.le_of_ble_eq_true rfl⟩) (k_preV hK hW (shC_lt ho (by decide)) (ceC_6 ho) (q := (RX6, TX6, 7)) rfl) rfl rfl hl.1 rfl (lv_room (Nat.le_of_ble_eq_true rfl)) dX6_turnedOver_15 ⟨Nat.le_refl 0, Nat.le_refl 0⟩) (fun r2 h3 H locs hq hW => ?_)
    rw [hq.1] at hW
    have hq := hq.2
    refine lv_iconst (v := 1) hx hb dX6_turnedOver_18 (by decide) ?_
    refine lv_icmp_ne (tgt := 24) hx hb dX6_turnedOver_19 (by decide) (fun c4 => ?_) (fun c4 => ?_)
    · have hq := hq.1 c4
      obtain ⟨x2_5, ex2_5⟩ : ∃ y : Int32, y = x2 + 1 := ⟨_, rfl⟩
      have hq := hq x2_5 ex2_5
      refine lv_iinc (v := x2_5) (lv' := [(2, .int x2_5), (0, .ref (G.2.2 o)), (1, .int x1)]) hx hb dX6_turnedOver_24 hl (k := 2) rfl (by rw [ex2_5]; rfl) (by decide) rfl (fun ls hl => ?_)
      refine lv_goto (tgt := 2) hx hb dX6_turnedOver_27 (by decide) ?_
      exact hX2 _ _ _ _ hW (lv_sub hl [1, 2, 0] rfl) hq
    · have hq := hq.2 c4
      refine lv_iload_n hx hb dX6_turnedOver_22 rfl (lv_at hl 2 rfl) ?_
      exact k_iret rfl C hW dX6_turnedOver_23 ⟨rfl, hq⟩
theorem k_X6_turnedOver_2 {o : Nat} (ho : shC o = 6) {Q : Int32 → Prop} {x1 : Int32} {h : hp} (C : kC p s m args meth c cX6_turnedOver 3 (some .int) RX6 wUX6_turnedOver) (hK : kK G s) {x2 : Int32} {H : Heap} {locs : List Loc} {ls : Array Slot} (hW : kW SC G h (aS SC G) s H locs) (hl : lv_has ls 3 [(0, .ref (G.2.2 o)), (1, .int x1), (2, .int x2)]) (hq : w_X6_turnedOver_2 o Q x1 h x2) : W p l e rmX6_turnedOver s m args below meth c H locs 0 0 (MQ below (va_Qi (fun r9 h9 => h9 = h ∧ Q r9) (kB SC G) (aS SC G)) args s 0 0 (aS SC G)) (F0 m 2 ls []) := by
  have key := hq (fun (q : Int32) => ∀ (H : Heap) (locs : List Loc) (ls : Array Slot), kW SC G h (aS SC G) s H locs → lv_has ls 3 [(0, .ref (G.2.2 o)), (1, .int x1), (2, .int q)] → W p l e rmX6_turnedOver s m args below meth c H locs 0 0 (MQ below (va_Qi (fun r9 h9 => h9 = h ∧ Q r9) (kB SC G) (aS SC G)) args s 0 0 (aS SC G)) (F0 m 2 ls []))
    (fun q hq H locs ls hW hl => k_X6_turnedOver_b2 ho C hK (fun x2 H locs ls hW hl hI => hI H locs ls hW hl) hW hl hq)
  exact key _ _ _ hW hl
theorem k_X6_turnedOver_0 {o : Nat} (ho : shC o = 6) {Q : Int32 → Prop} {x1 : Int32} {h : hp} (C : kC p s m args meth c cX6_turnedOver 3 (some .int) RX6 wUX6_turnedOver) (hK : kK G s) {H : Heap} {locs : List Loc} {ls : Array Slot} (hW : kW SC G h (aS SC G) s H locs) (hl : lv_has ls 3 [(0, .ref (G.2.2 o)), (1, .int x1)]) (hq : w_X6_turnedOver_0 o Q x1 h) : W p l e rmX6_turnedOver s m args below meth c H locs 0 0 (MQ below (va_Qi (fun r9 h9 => h9 = h ∧ Q r9) (kB SC G) (aS SC G)) args s 0 0 (aS SC G)) (F0 m 0 ls []) := by
  have hx := C.1
  have hb := C.2.1
  unfold w_X6_turnedOver_0 at hq
  refine lv_iconst (v := 1) hx hb dX6_turnedOver_0 (by decide) ?_
  refine lv_istore_n (lv' := [(2, .int 1), (0, .ref (G.2.2 o)), (1, .int x1)]) hx hb dX6_turnedOver_1 rfl hl (by decide) rfl (fun ls hl => ?_)
  exact k_X6_turnedOver_2 ho C hK hW (lv_sub hl [1, 2, 0] rfl) hq
theorem c_X6_turnedOver (l : Launch) (G : wG) {o : Nat} (ho : shC o = 6) (h : hp) (x1 : Int32) (Q : Int32 → Prop) (hq : w_X6_turnedOver o h x1 Q) : ctI l SC G yX6_turnedOver wUX6_turnedOver rmX6_turnedOver h [.ref (G.2.2 o), .int x1] (fun r9 h9 => h9 = h ∧ Q r9) := by
  refine k_start (cc := cX6_turnedOver) (maxL := 3) (rt := (some .int)) (own := RX6) (by decide +kernel) rfl rfl (Nat.le_of_ble_eq_true rfl) ?_
  intro p e s m below meth c ls C hK hW hl
  exact k_X6_turnedOver_0 ho C hK hW hl hq
theorem k_X6_findRow_b52 {o : Nat} (ho : shC o = 6) {Q : hp → Prop} {X10 : Int32 × hp → Prop} {X52 : Int32 × hp → Prop} {x1 : Int32} {x2 : Int32} {x3 : Int32} (C : kC p s m args meth c cX6_findRow 5 none RX6 wUX6_findRow) (hK : kK G s) (hX10 : ∀ (x2 : Int32) (h : hp) (H : Heap) (locs : List Loc) (ls : Array Slot), kW SC G h (aS SC G) s H locs → lv_has ls 5 [(0, .ref (G.2.2 o)), (1, .int x1), (2, .int x2)] → X10 (x2, h) → W p l e rmX6_findRow s m args below meth c H locs 0 0 (MQ below (va_Qv Q (kB SC G) (aS SC G)) args s 0 0 (aS SC G)) (F0 m 10 ls [])) (hX52 : ∀ (x4 : Int32) (h : hp) (H : Heap) (locs : List Loc) (ls : Array Slot), kW SC G h (aS SC G) s H locs → lv_has ls 5 [(0, .ref (G.2.2 o)), (1, .int x1), (2, .int x2), (3, .int x3), (4, .int x4)] → X52 (x4, h) → W p l e rmX6_findRow s m args below meth c H locs 0 0 (MQ below (va_Qv Q (kB SC G) (aS SC G)) args s 0 0 (aS SC G)) (F0 m 52 ls [])) {x4 : Int32} {h : hp} {H : Heap} {locs : List Loc} {ls : Array Slot} (hW : kW SC G h (aS SC G) s H locs) (hl : lv_has ls 5 [(0, .ref (G.2.2 o)), (1, .int x1), (2, .int x2), (3, .int x3), (4, .int x4)]) (hq : w_X6_findRow_b52 o Q X10 x1 x2 x3 X52 x4 h) : W p l e rmX6_findRow s m args below meth c H locs 0 0 (MQ below (va_Qv Q (kB SC G) (aS SC G)) args s 0 0 (aS SC G)) (F0 m 52 ls []) := by
  have hx := C.1
  have hb := C.2.1
  unfold w_X6_findRow_b52 at hq
  refine lv_iload hx hb dX6_findRow_52 (lv_at hl 4 rfl) ?_
  refine lv_aload_n hx hb dX6_findRow_54 rfl (lv_at hl 0 rfl) ?_
  refine gt6_5 C hK hW ho (List.mem_cons_of_mem _ mw98) (fun _ h9 => List.mem_cons_of_mem _ (inU_wsX60 _ h9)) dX6_findRow_55 ?_
  refine k_alen C hK hW (shC_lt (sl6_5 ho).1 (by decide)) (t0 := 1) rfl (ceC_14 (sl6_5 ho).1 (sl6_5 ho).2) (v := 6) (by first | rfl | decide) dX6_findRow_58 ?_
  refine lv_icmp_ge (tgt := 97) hx hb dX6_findRow_59 (by decide) (fun c13 => ?_) (fun c13 => ?_)
  · have hq := hq.1 c13
    obtain ⟨x2_14, ex2_14⟩ : ∃ y : Int32, y = x2 + 1 := ⟨_, rfl⟩
    have hq := hq x2_14 ex2_14
    refine lv_iinc (v := x2_14) (lv' := [(2, .int x2_14), (0, .ref (G.2.2 o)), (1, .int x1), (3, .int x3), (4, .int x4)]) hx hb dX6_findRow_97 hl (k := 2) rfl (by rw [ex2_14]; rfl) (by decide) rfl (fun ls hl => ?_)
    refine lv_goto (tgt := 10) hx hb dX6_findRow_100 (by decide) ?_
    exact hX10 _ _ _ _ _ hW (lv_sub hl [1, 2, 0] rfl) hq
  · have hq := hq.2 c13
    refine lv_aload_n hx hb dX6_findRow_62 rfl (lv_at hl 0 rfl) ?_
    refine gt6_5 C hK hW ho (List.mem_cons_of_mem _ mw98) (fun _ h9 => List.mem_cons_of_mem _ (inU_wsX60 _ h9)) dX6_findRow_63 ?_
    refine lv_iload hx hb dX6_findRow_66 (lv_at hl 4 rfl) ?_
    refine lv_aload_n hx hb dX6_findRow_68 rfl (lv_at hl 0 rfl) ?_
    refine lv_aload_n hx hb dX6_findRow_69 rfl (lv_at hl 0 rfl) ?_
    refine gt6_5 C hK hW ho (List.mem_cons_of_mem _ mw98) (fun _ h9 => List.mem_cons_of_mem _ (inU_wsX60 _ h9)) dX6_findRow_70 ?_
    refine lv_iload hx hb dX6_findRow_73 (lv_at hl 4 rfl) ?_
    refine k_iald C hK hW (shC_lt (sl6_5 ho).1 (by decide)) (ceC_14 (sl6_5 ho).1 (sl6_5 ho).2) hq.1 dX6_findRow_75 ?_
    have hq := hq.2
    refine lv_iload_n hx hb dX6_findRow_76 rfl (lv_at hl 3 rfl) ?_
    refine lv_aload_n hx hb dX6_findRow_77 rfl (lv_at hl 0 rfl) ?_
    refine gt6_6 C hK hW ho (List.mem_cons_of_mem _ mw99) (fun _ h9 => List.mem_cons_of_mem _ (inU_wsX60 _ h9)) dX6_findRow_78 ?_
    refine lv_iload hx hb dX6_findRow_81 (lv_at hl 4 rfl) ?_
    refine k_iald C hK hW (shC_lt (sl6_6 ho).1 (by decide)) (ceC_14 (sl6_6 ho).1 (sl6_6 ho).2) hq.1 dX6_findRow_83 ?_
    have hq := hq.2
    refine lv_imul hx hb dX6_findRow_84 ?_
    refine lv_iadd hx hb dX6_findRow_85 ?_
    refine lv_i2l (v := ((gI h (o + 4) (ix x4)) + (x3 * (gI h (o + 5) (ix x4)))).toInt64) hx hb dX6_findRow_86 rfl ?_
    refine k_ci hW (va_runV (As := [.long (((gI h (o + 4) (ix x4)) + (x3 * (gI h (o + 5) (ix x4)))).toInt64)]) (rest := [.int x4, .ref (G.2.2 (o + 4))]) (k_fix C) (c_X6_restOf l G ho h (((gI h (o + 4) (ix x4)) + (x3 * (gI h (o + 5) (ix x4)))).toInt64) _ hq) (cwV 1 C.2.2.2.2.2.1 (gU_V mw1250 mw1251 mw1252 mw73 mw1253) rfl rfl rfl (by decide +kernel) ⟨Nat.le_of_ble_eq_true rfl, Nat.le_of_ble_eq_true rfl⟩) (k_preV hK hW (shC_lt ho (by decide)) (ceC_6 ho) (q := (RX6, TX6, 7)) rfl) rfl rfl hl.1 rfl (lv_room (Nat.le_of_ble_eq_true rfl)) dX6_findRow_87 ⟨Nat.le_refl 0, Nat.le_refl 0⟩) (fun r15 h16 H locs hq hW => ?_)
    rw [hq.1] at hW
    have hq := hq.2
    refine k_iast okC C hK hW (shC_lt (sl6_5 ho).1 (by decide)) (fun g9 => ceC_14 (sl6_5 ho).1 (sl6_5 ho).2) hq.1 dX6_findRow_90 (fun H locs hW => ?_)
    have hq := hq.2
    obtain ⟨h17, eh17⟩ : ∃ z : hp, z = sI h (o + 4) (ix x4) r15 := ⟨_, rfl⟩
    rw [← eh17] at hW
    have hq := hq h17 eh17
    obtain ⟨x4_18, ex4_18⟩ : ∃ y : Int32, y = x4 + 1 := ⟨_, rfl⟩
    have hq := hq x4_18 ex4_18
    refine lv_iinc (v := x4_18) (lv' := [(4, .int x4_18), (0, .ref (G.2.2 o)), (1, .int x1), (2, .int x2), (3, .int x3)]) hx hb dX6_findRow_91 hl (k := 4) rfl (by rw [ex4_18]; rfl) (by decide) rfl (fun ls hl => ?_)
    refine lv_goto (tgt := 52) hx hb dX6_findRow_94 (by decide) ?_
    exact hX52 _ _ _ _ _ hW (lv_sub hl [1, 2, 3, 4, 0] rfl) hq
theorem k_X6_findRow_52 {o : Nat} (ho : shC o = 6) {Q : hp → Prop} {X10 : Int32 × hp → Prop} {x1 : Int32} {x2 : Int32} {x3 : Int32} (C : kC p s m args meth c cX6_findRow 5 none RX6 wUX6_findRow) (hK : kK G s) (hX10 : ∀ (x2 : Int32) (h : hp) (H : Heap) (locs : List Loc) (ls : Array Slot), kW SC G h (aS SC G) s H locs → lv_has ls 5 [(0, .ref (G.2.2 o)), (1, .int x1), (2, .int x2)] → X10 (x2, h) → W p l e rmX6_findRow s m args below meth c H locs 0 0 (MQ below (va_Qv Q (kB SC G) (aS SC G)) args s 0 0 (aS SC G)) (F0 m 10 ls [])) {x4 : Int32} {h : hp} {H : Heap} {locs : List Loc} {ls : Array Slot} (hW : kW SC G h (aS SC G) s H locs) (hl : lv_has ls 5 [(0, .ref (G.2.2 o)), (1, .int x1), (2, .int x2), (3, .int x3), (4, .int x4)]) (hq : w_X6_findRow_52 o Q X10 x1 x2 x3 x4 h) : W p l e rmX6_findRow s m args below meth c H locs 0 0 (MQ below (va_Qv Q (kB SC G) (aS SC G)) args s 0 0 (aS SC G)) (F0 m 52 ls []) := by
  have key := hq (fun (q : Int32 × hp) => ∀ (H : Heap) (locs : List Loc) (ls : Array Slot), kW SC G q.2 (aS SC G) s H locs → lv_has ls 5 [(0, .ref (G.2.2 o)), (1, .int x1), (2, .int x2), (3, .int x3), (4, .int q.1)] → W p l e rmX6_findRow s m args below meth c H locs 0 0 (MQ below (va_Qv Q (kB SC G) (aS SC G)) args s 0 0 (aS SC G)) (F0 m 52 ls []))
    (fun q hq H locs ls hW hl => k_X6_findRow_b52 ho C hK hX10 (fun x4 h H locs ls hW hl hI => hI H locs ls hW hl) hW hl hq)
  exact key _ _ _ hW hl
theorem k_X6_findRow_b10 {o : Nat} (ho : shC o = 6) {Q : hp → Prop} {X10 : Int32 × hp → Prop} {x1 : Int32} (C : kC p s m args meth c cX6_findRow 5 none RX6 wUX6_findRow) (hK : kK G s) (hX10 : ∀ (x2 : Int32) (h : hp) (H : Heap) (locs : List Loc) (ls : Array Slot), kW SC G h (aS SC G) s H locs → lv_has ls 5 [(0, .ref (G.2.2 o)), (1, .int x1), (2, .int x2)] → X10 (x2, h) → W p l e rmX6_findRow s m args below meth c H locs 0 0 (MQ below (va_Qv Q (kB SC G) (aS SC G)) args s 0 0 (aS SC G)) (F0 m 10 ls [])) {x2 : Int32} {h : hp} {H : Heap} {locs : List Loc} {ls : Array Slot} (hW : kW SC G h (aS SC G) s H locs) (hl : lv_has ls 5 [(0, .ref (G.2.2 o)), (1, .int x1), (2, .int x2)]) (hq : w_X6_findRow_b10 o Q x1 X10 x2 h) : W p l e rmX6_findRow s m args below meth c H locs 0 0 (MQ below (va_Qv Q (kB SC G) (aS SC G)) args s 0 0 (aS SC G)) (F0 m 10 ls []) := by
  have hx := C.1
  have hb := C.2.1
  unfold w_X6_findRow_b10 at hq
  refine lv_iload_n hx hb dX6_findRow_10 rfl (lv_at hl 2 rfl) ?_
  refine lv_aload_n hx hb dX6_findRow_11 rfl (lv_at hl 0 rfl) ?_
  refine gt6_0 C hK hW ho (List.mem_cons_of_mem _ mw93) (fun _ h9 => List.mem_cons_of_mem _ (inU_wsX60 _ h9)) dX6_findRow_12 ?_
  refine lv_icmp_ge (tgt := 103) hx hb dX6_findRow_15 (by decide) (fun c2 => ?_) (fun c2 => ?_)
  · have hq := hq.1 c2
    exact k_vret rfl C hW dX6_findRow_103 hq
  · have hq := hq.2 c2
    refine lv_iload_n hx hb dX6_findRow_18 rfl (lv_at hl 1 rfl) ?_
    refine lv_iload_n hx hb dX6_findRow_19 rfl (lv_at hl 2 rfl) ?_
    refine k_ci hW (va_runS (As := [.int x1, .int x2]) (rest := []) (k_fix C) (c_X6_isIn l G h x1 x2 _ hq) (va_cwS 2 C.2.2.2.2.2.1 (gU_S mw1243 mw1244 mw73 mw1245) rfl rfl rfl (by decide +kernel) ⟨Nat.le_of_ble_eq_true rfl, Nat.le_of_ble_eq_true rfl⟩) (k_preS hK hW) rfl rfl hl.1 rfl (lv_room (Nat.le_of_ble_eq_true rfl)) dX6_findRow_20 ⟨Nat.le_refl 0, Nat.le_refl 0⟩) (fun r3 h4 H locs hq hW => ?_)
    rw [hq.1] at hW
    have hq := hq.2
    refine lv_if_eq (tgt := 97) hx hb dX6_findRow_23 (by decide) (fun c5 => ?_) (fun c5 => ?_)
    · have hq := hq.1 c5
      obtain ⟨x2_6, ex2_6⟩ : ∃ y : Int32, y = x2 + 1 := ⟨_, rfl⟩
      have hq := hq x2_6 ex2_6
      refine lv_iinc (v := x2_6) (lv' := [(2, .int x2_6), (0, .ref (G.2.2 o)), (1, .int x1)]) hx hb dX6_findRow_97 hl (k := 2) rfl (by rw [ex2_6]; rfl) (by decide) rfl (fun ls hl => ?_)
      refine lv_goto (tgt := 10) hx hb dX6_findRow_100 (by decide) ?_
      exact hX10 _ _ _ _ _ hW (lv_sub hl [1, 2, 0] rfl) hq
    · have hq := hq.2 c5
      refine lv_aload_n hx hb dX6_findRow_26 rfl (lv_at hl 0 rfl) ?_
      refine lv_aload_n hx hb dX6_findRow_27 rfl (lv_at hl 0 rfl) ?_
      refine gt6_4 C hK hW ho (List.mem_cons_of_mem _ mw97) (fun _ h9 => List.mem_cons_of_mem _ (inU_wsX60 _ h9)) dX6_findRow_28 ?_
      refine lv_iload_n hx hb dX6_findRow_31 rfl (lv_at hl 2 rfl) ?_
      refine k_iald C hK hW (shC_lt (sl6_4 ho).1 (by decide)) (ceC_14 (sl6_4 ho).1 (sl6_4 ho).2) hq.1 dX6_findRow_32 ?_
      have hq := hq.2
      refine lv_aload_n hx hb dX6_findRow_33 rfl (lv_at hl 0 rfl) ?_
      refine lv_aload_n hx hb dX6_findRow_34 rfl (lv_at hl 0 rfl) ?_
      refine lv_iload_n hx hb dX6_findRow_35 rfl (lv_at hl 1 rfl) ?_
      refine lv_iload_n hx hb dX6_findRow_36 rfl (lv_at hl 2 rfl) ?_
      refine k_ci hW (va_runV (As := [.int x1, .int x2]) (rest := [.ref (G.2.2 o), .int (gI h (o + 3) (ix x2)), .ref (G.2.2 o)]) (k_fix C) (c_X6_othersProduct l G ho h x1 x2 _ hq) (cwV 2 C.2.2.2.2.2.1 (gU_V mw1246 mw1247 mw1248 mw73 mw1249) rfl rfl rfl (by decide +kernel) ⟨Nat.le_of_ble_eq_true rfl, Nat.le_of_ble_eq_true rfl⟩) (k_preV hK hW (shC_lt ho (by decide)) (ceC_6 ho) (q := (RX6, TX6, 7)) rfl) rfl rfl hl.1 rfl (lv_room (Nat.le_of_ble_eq_true rfl)) dX6_findRow_37 ⟨Nat.le_refl 0, Nat.le_refl 0⟩) (fun r8 h7 H locs hq hW => ?_)
      refine k_ci hW (va_runV (As := [.int r8]) (rest := [.int (gI h (o + 3) (ix x2)), .ref (G.2.2 o)]) (k_fix C) (c_X6_turnedOver l G ho h7 r8 _ hq) (cwV 1 C.2.2.2.2.2.1 (gU_V mw1258 mw1259 mw1260 mw73 mw1261) rfl rfl rfl (by decide +kernel) ⟨Nat.le_of_ble_eq_true rfl, Nat.le_of_ble_eq_true rfl⟩) (k_preV hK hW (shC_lt ho (by decide)) (ceC_6 ho) (q := (RX6, TX6, 7)) rfl) rfl rfl hl.1 rfl (lv_room (Nat.le_of_ble_eq_true rfl)) dX6_findRow_40 ⟨Nat.le_refl 0, Nat.le_refl 0⟩) (fun r9 h10 H locs hq hW => ?_)
      rw [hq.1] at hW
      have hq := hq.2
      refine lv_imul hx hb dX6_findRow_43 ?_
      refine lv_i2l (v := ((gI h (o + 3) (ix x2)) * r9).toInt64) hx hb dX6_findRow_44 rfl ?_
      refine k_ci hW (va_runV (As := [.long (((gI h (o + 3) (ix x2)) * r9).toInt64)]) (rest := []) (k_fix C) (c_X6_restOf l G ho h7 (((gI h (o + 3) (ix x2)) * r9).toInt64) _ hq) (cwV 1 C.2.2.2.2.2.1 (gU_V mw1250 mw1251 mw1252 mw73 mw1253) rfl rfl rfl (by decide +kernel) ⟨Nat.le_of_ble_eq_true rfl, Nat.le_of_ble_eq_true rfl⟩) (k_preV hK hW (shC_lt ho (by decide)) (ceC_6 ho) (q := (RX6, TX6, 7)) rfl) rfl rfl hl.1 rfl (lv_room (Nat.le_of_ble_eq_true rfl)) dX6_findRow_45 ⟨Nat.le_refl 0, Nat.le_refl 0⟩) (fun r11 h12 H locs hq hW => ?_)
      rw [hq.1] at hW
      have hq := hq.2
      refine lv_istore_n (lv' := [(3, .int r11), (0, .ref (G.2.2 o)), (1, .int x1), (2, .int x2)]) hx hb dX6_findRow_48 rfl hl (by decide) rfl (fun ls hl => ?_)
      refine lv_iconst (v := 0) hx hb dX6_findRow_49 (by decide) ?_
      refine lv_istore (lv' := [(4, .int 0), (3, .int r11), (0, .ref (G.2.2 o)), (1, .int x1), (2, .int x2)]) hx hb dX6_findRow_50 hl (by decide) rfl (fun ls hl => ?_)
      exact k_X6_findRow_52 ho C hK hX10 hW (lv_sub hl [2, 3, 4, 1, 0] rfl) hq
theorem k_X6_findRow_10 {o : Nat} (ho : shC o = 6) {Q : hp → Prop} {x1 : Int32} (C : kC p s m args meth c cX6_findRow 5 none RX6 wUX6_findRow) (hK : kK G s) {x2 : Int32} {h : hp} {H : Heap} {locs : List Loc} {ls : Array Slot} (hW : kW SC G h (aS SC G) s H locs) (hl : lv_has ls 5 [(0, .ref (G.2.2 o)), (1, .int x1), (2, .int x2)]) (hq : w_X6_findRow_10 o Q x1 x2 h) : W p l e rmX6_findRow s m args below meth c H locs 0 0 (MQ below (va_Qv Q (kB SC G) (aS SC G)) args s 0 0 (aS SC G)) (F0 m 10 ls []) := by
  have key := hq (fun (q : Int32 × hp) => ∀ (H : Heap) (locs : List Loc) (ls : Array Slot), kW SC G q.2 (aS SC G) s H locs → lv_has ls 5 [(0, .ref (G.2.2 o)), (1, .int x1), (2, .int q.1)] → W p l e rmX6_findRow s m args below meth c H locs 0 0 (MQ below (va_Qv Q (kB SC G) (aS SC G)) args s 0 0 (aS SC G)) (F0 m 10 ls []))
    (fun q hq H locs ls hW hl => k_X6_findRow_b10 ho C hK (fun x2 h H locs ls hW hl hI => hI H locs ls hW hl) hW hl hq)
  exact key _ _ _ hW hl
theorem k_X6_findRow_0 {o : Nat} (ho : shC o = 6) {Q : hp → Prop} {x1 : Int32} {h : hp} (C : kC p s m args meth c cX6_findRow 5 none RX6 wUX6_findRow) (hK : kK G s) {H : Heap} {locs : List Loc} {ls : Array Slot} (hW : kW SC G h (aS SC G) s H locs) (hl : lv_has ls 5 [(0, .ref (G.2.2 o)), (1, .int x1)]) (hq : w_X6_findRow_0 o Q x1 h) : W p l e rmX6_findRow s m args below meth c H locs 0 0 (MQ below (va_Qv Q (kB SC G) (aS SC G)) args s 0 0 (aS SC G)) (F0 m 0 ls []) := by
  have hx := C.1
  have hb := C.2.1
  unfold w_X6_findRow_0 at hq
  refine lv_aload_n hx hb dX6_findRow_0 rfl (lv_at hl 0 rfl) ?_
  refine gt6_5 C hK hW ho (List.mem_cons_of_mem _ mw98) (fun _ h9 => List.mem_cons_of_mem _ (inU_wsX60 _ h9)) dX6_findRow_1 ?_
  refine lv_iconst (v := 0) hx hb dX6_findRow_4 (by decide) ?_
  refine k_cv hW (va_runS (As := [.ref (G.2.2 (o + 4)), .int 0]) (rest := []) (k_fix C) (c_J7_fill_53178 l G (sl6_5 ho).1 (sl6_5 ho).2 h 0 _ hq) (va_cwS 2 C.2.2.2.2.2.1 (gU_S mw1242 mw1103 mw864 mw1104) rfl rfl rfl (by decide +kernel) ⟨Nat.le_of_ble_eq_true rfl, Nat.le_of_ble_eq_true rfl⟩) (k_preS hK hW) rfl rfl hl.1 rfl (lv_room (Nat.le_of_ble_eq_true rfl)) dX6_findRow_5 ⟨Nat.le_refl 0, Nat.le_refl 0⟩) (fun h1 H locs hq hW => ?_)
  refine lv_iconst (v := 0) hx hb dX6_findRow_8 (by decide) ?_
  refine lv_istore_n (lv' := [(2, .int 0), (0, .ref (G.2.2 o)), (1, .int x1)]) hx hb dX6_findRow_9 rfl hl (by decide) rfl (fun ls hl => ?_)
  exact k_X6_findRow_10 ho C hK hW (lv_sub hl [1, 2, 0] rfl) hq
theorem c_X6_findRow (l : Launch) (G : wG) {o : Nat} (ho : shC o = 6) (h : hp) (x1 : Int32) (Q : hp → Prop) (hq : w_X6_findRow o h x1 Q) : ctV l SC G yX6_findRow wUX6_findRow rmX6_findRow h [.ref (G.2.2 o), .int x1] Q := by
  refine k_start (cc := cX6_findRow) (maxL := 5) (rt := none) (own := RX6) (by decide +kernel) rfl rfl (Nat.le_of_ble_eq_true rfl) ?_
  intro p e s m below meth c ls C hK hW hl
  exact k_X6_findRow_0 ho C hK hW hl hq
theorem k_X6_comesTo_b10 {o : Nat} (ho : shC o = 6) {Q : Int32 → Prop} {X10 : Int32 × Int32 → Prop} {x1 : Int32} {h : hp} (C : kC p s m args meth c cX6_comesTo 4 (some .int) RX6 wUX6_comesTo) (hK : kK G s) (hX10 : ∀ (x2 : Int32) (x3 : Int32) (H : Heap) (locs : List Loc) (ls : Array Slot), kW SC G h (aS SC G) s H locs → lv_has ls 4 [(0, .ref (G.2.2 o)), (1, .int x1), (2, .int x2), (3, .int x3)] → X10 (x2, x3) → W p l e rmX6_comesTo s m args below meth c H locs 0 0 (MQ below (va_Qi (fun r9 h9 => h9 = h ∧ Q r9) (kB SC G) (aS SC G)) args s 0 0 (aS SC G)) (F0 m 10 ls [])) {x2 : Int32} {x3 : Int32} {H : Heap} {locs : List Loc} {ls : Array Slot} (hW : kW SC G h (aS SC G) s H locs) (hl : lv_has ls 4 [(0, .ref (G.2.2 o)), (1, .int x1), (2, .int x2), (3, .int x3)]) (hq : w_X6_comesTo_b10 o Q x1 h X10 x2 x3) : W p l e rmX6_comesTo s m args below meth c H locs 0 0 (MQ below (va_Qi (fun r9 h9 => h9 = h ∧ Q r9) (kB SC G) (aS SC G)) args s 0 0 (aS SC G)) (F0 m 10 ls []) := by
  have hx := C.1
  have hb := C.2.1
  unfold w_X6_comesTo_b10 at hq
  refine lv_iload_n hx hb dX6_comesTo_10 rfl (lv_at hl 3 rfl) ?_
  refine lv_if_lt (tgt := 36) hx hb dX6_comesTo_11 (by decide) (fun c2 => ?_) (fun c2 => ?_)
  · have hq := hq.1 c2
    refine lv_iload_n hx hb dX6_comesTo_36 rfl (lv_at hl 2 rfl) ?_
    exact k_iret rfl C hW dX6_comesTo_37 ⟨rfl, hq⟩
  · have hq := hq.2 c2
    refine lv_aload_n hx hb dX6_comesTo_14 rfl (lv_at hl 0 rfl) ?_
    refine lv_iload_n hx hb dX6_comesTo_15 rfl (lv_at hl 2 rfl) ?_
    refine lv_iload_n hx hb dX6_comesTo_16 rfl (lv_at hl 1 rfl) ?_
    refine lv_imul hx hb dX6_comesTo_17 ?_
    refine lv_aload_n hx hb dX6_comesTo_18 rfl (lv_at hl 0 rfl) ?_
    refine gt6_5 C hK hW ho (List.mem_cons_of_mem _ mw98) (fun _ h9 => List.mem_cons_of_mem _ (inU_wsX60 _ h9)) dX6_comesTo_19 ?_
    refine lv_iload_n hx hb dX6_comesTo_22 rfl (lv_at hl 3 rfl) ?_
    refine k_iald C hK hW (shC_lt (sl6_5 ho).1 (by decide)) (ceC_14 (sl6_5 ho).1 (sl6_5 ho).2) hq.1 dX6_comesTo_23 ?_
    have hq := hq.2
    refine lv_iadd hx hb dX6_comesTo_24 ?_
    refine lv_i2l (v := ((x2 * x1) + (gI h (o + 4) (ix x3))).toInt64) hx hb dX6_comesTo_25 rfl ?_
    refine k_ci hW (va_runV (As := [.long (((x2 * x1) + (gI h (o + 4) (ix x3))).toInt64)]) (rest := []) (k_fix C) (c_X6_restOf l G ho h (((x2 * x1) + (gI h (o + 4) (ix x3))).toInt64) _ hq) (cwV 1 C.2.2.2.2.2.1 (gU_V mw1250 mw1251 mw1252 mw73 mw1253) rfl rfl rfl (by decide +kernel) ⟨Nat.le_of_ble_eq_true rfl, Nat.le_of_ble_eq_true rfl⟩) (k_preV hK hW (shC_lt ho (by decide)) (ceC_6 ho) (q := (RX6, TX6, 7)) rfl) rfl rfl hl.1 rfl (lv_room (Nat.le_of_ble_eq_true rfl)) dX6_comesTo_26 ⟨Nat.le_refl 0, Nat.le_refl 0⟩) (fun r3 h4 H locs hq hW => ?_)
    rw [hq.1] at hW
    have hq := hq.2
    refine lv_istore_n (lv' := [(2, .int r3), (0, .ref (G.2.2 o)), (1, .int x1), (3, .int x3)]) hx hb dX6_comesTo_29 rfl hl (by decide) rfl (fun ls hl => ?_)
    obtain ⟨x3_5, ex3_5⟩ : ∃ y : Int32, y = x3 + (-1) := ⟨_, rfl⟩
    have hq := hq x3_5 ex3_5
    refine lv_iinc (v := x3_5) (lv' := [(3, .int x3_5), (2, .int r3), (0, .ref (G.2.2 o)), (1, .int x1)]) hx hb dX6_comesTo_30 hl (k := 3) rfl (by rw [ex3_5]; rfl) (by decide) rfl (fun ls hl => ?_)
    refine lv_goto (tgt := 10) hx hb dX6_comesTo_33 (by decide) ?_
    exact hX10 _ _ _ _ _ hW (lv_sub hl [2, 3, 1, 0] rfl) hq
theorem k_X6_comesTo_10 {o : Nat} (ho : shC o = 6) {Q : Int32 → Prop} {x1 : Int32} {h : hp} (C : kC p s m args meth c cX6_comesTo 4 (some .int) RX6 wUX6_comesTo) (hK : kK G s) {x2 : Int32} {x3 : Int32} {H : Heap} {locs : List Loc} {ls : Array Slot} (hW : kW SC G h (aS SC G) s H locs) (hl : lv_has ls 4 [(0, .ref (G.2.2 o)), (1, .int x1), (2, .int x2), (3, .int x3)]) (hq : w_X6_comesTo_10 o Q x1 h x2 x3) : W p l e rmX6_comesTo s m args below meth c H locs 0 0 (MQ below (va_Qi (fun r9 h9 => h9 = h ∧ Q r9) (kB SC G) (aS SC G)) args s 0 0 (aS SC G)) (F0 m 10 ls []) := by
  have key := hq (fun (q : Int32 × Int32) => ∀ (H : Heap) (locs : List Loc) (ls : Array Slot), kW SC G h (aS SC G) s H locs → lv_has ls 4 [(0, .ref (G.2.2 o)), (1, .int x1), (2, .int q.1), (3, .int q.2)] → W p l e rmX6_comesTo s m args below meth c H locs 0 0 (MQ below (va_Qi (fun r9 h9 => h9 = h ∧ Q r9) (kB SC G) (aS SC G)) args s 0 0 (aS SC G)) (F0 m 10 ls []))
    (fun q hq H locs ls hW hl => k_X6_comesTo_b10 ho C hK (fun x2 x3 H locs ls hW hl hI => hI H locs ls hW hl) hW hl hq)
  exact key _ _ _ hW hl
theorem k_X6_comesTo_0 {o : Nat} (ho : shC o = 6) {Q : Int32 → Prop} {x1 : Int32} {h : hp} (C : kC p s m args meth c cX6_comesTo 4 (some .int) RX6 wUX6_comesTo) (hK : kK G s) {H : Heap} {locs : List Loc} {ls : Array Slot} (hW : kW SC G h (aS SC G) s H locs) (hl : lv_has ls 4 [(0, .ref (G.2.2 o)), (1, .int x1)]) (hq : w_X6_comesTo_0 o Q x1 h) : W p l e rmX6_comesTo s m args below meth c H locs 0 0 (MQ below (va_Qi (fun r9 h9 => h9 = h ∧ Q r9) (kB SC G) (aS SC G)) args s 0 0 (aS SC G)) (F0 m 0 ls []) := by
  have hx := C.1
  have hb := C.2.1
  unfold w_X6_comesTo_0 at hq
  refine lv_iconst (v := 0) hx hb dX6_comesTo_0 (by decide) ?_
  refine lv_istore_n (lv' := [(2, .int 0), (0, .ref (G.2.2 o)), (1, .int x1)]) hx hb dX6_comesTo_1 rfl hl (by decide) rfl (fun ls hl => ?_)
  refine lv_aload_n hx hb dX6_comesTo_2 rfl (lv_at hl 1 rfl) ?_
  refine gt6_5 C hK hW ho (List.mem_cons_of_mem _ mw98) (fun _ h9 => List.mem_cons_of_mem _ (inU_wsX60 _ h9)) dX6_comesTo_3 ?_
  refine k_alen C hK hW (shC_lt (sl6_5 ho).1 (by decide)) (t0 := 1) rfl (ceC_14 (sl6_5 ho).1 (sl6_5 ho).2) (v := 6) (by first | rfl | decide) dX6_comesTo_6 ?_
  refine lv_iconst (v := 1) hx hb dX6_comesTo_7 (by decide) ?_
  refine lv_isub hx hb dX6_comesTo_8 ?_
  refine lv_topi (fun x3_1 ex3_1 => ?_)
  have hq := hq x3_1 ex3_1
  refine lv_istore_n (lv' := [(3, .int x3_1), (2, .int 0), (0, .ref (G.2.2 o)), (1, .int x1)]) hx hb dX6_comesTo_9 rfl hl (by decide) rfl (fun ls hl => ?_)
  exact k_X6_comesTo_10 ho C hK hW (lv_sub hl [2, 3, 1, 0] rfl) hq
theorem c_X6_comesTo (l : Launch) (G : wG) {o : Nat} (ho : shC o = 6) (h : hp) (x1 : Int32) (Q : Int32 → Prop) (hq : w_X6_comesTo o h x1 Q) : ctI l SC G yX6_comesTo wUX6_comesTo rmX6_comesTo h [.ref (G.2.2 o), .int x1] (fun r9 h9 => h9 = h ∧ Q r9) := by
  refine k_start (cc := cX6_comesTo) (maxL := 4) (rt := (some .int)) (own := RX6) (by decide +kernel) rfl rfl (Nat.le_of_ble_eq_true rfl) ?_
  intro p e s m below meth c ls C hK hW hl
  exact k_X6_comesTo_0 ho C hK hW hl hq
theorem k_X6_sharesOff_b4 {o : Nat} (ho : shC o = 6) {Q : Int32 → Prop} {X4 : Int32 × Int32 → Prop} {h : hp} (C : kC p s m args meth c cX6_sharesOff 3 (some .int) RX6 wUX6_sharesOff) (hK : kK G s) (hX4 : ∀ (x1 : Int32) (x2 : Int32) (H : Heap) (locs : List Loc) (ls : Array Slot), kW SC G h (aS SC G) s H locs → lv_has ls 3 [(0, .ref (G.2.2 o)), (1, .int x1), (2, .int x2)] → X4 (x1, x2) → W p l e rmX6_sharesOff s m args below meth c H locs 0 0 (MQ below (va_Qi (fun r9 h9 => h9 = h ∧ Q r9) (kB SC G) (aS SC G)) args s 0 0 (aS SC G)) (F0 m 4 ls [])) {x1 : Int32} {x2 : Int32} {H : Heap} {locs : List Loc} {ls : Array Slot} (hW : kW SC G h (aS SC G) s H locs) (hl : lv_has ls 3 [(0, .ref (G.2.2 o)), (1, .int x1), (2, .int x2)]) (hq : w_X6_sharesOff_b4 o Q h X4 x1 x2) : W p l e rmX6_sharesOff s m args below meth c H locs 0 0 (MQ below (va_Qi (fun r9 h9 => h9 = h ∧ Q r9) (kB SC G) (aS SC G)) args s 0 0 (aS SC G)) (F0 m 4 ls []) := by
  have hx := C.1
  have hb := C.2.1
  unfold w_X6_sharesOff_b4 at hq
  refine lv_iload_n hx hb dX6_sharesOff_4 rfl (lv_at hl 2 rfl) ?_
  refine lv_aload_n hx hb dX6_sharesOff_5 rfl (lv_at hl 0 rfl) ?_
  refine gt6_0 C hK hW ho (List.mem_cons_of_mem _ mw93) (fun _ h9 => List.mem_cons_of_mem _ (inU_wsX60 _ h9)) dX6_sharesOff_6 ?_
  refine lv_icmp_ge (tgt := 48) hx hb dX6_sharesOff_9 (by decide) (fun c1 => ?_) (fun c1 => ?_)
  · have hq := hq.1 c1
    refine lv_iload_n hx hb dX6_sharesOff_48 rfl (lv_at hl 1 rfl) ?_
    exact k_iret rfl C hW dX6_sharesOff_49 ⟨rfl, hq⟩
  · have hq := hq.2 c1
    refine lv_aload_n hx hb dX6_sharesOff_12 rfl (lv_at hl 0 rfl) ?_
    refine lv_aload_n hx hb dX6_sharesOff_13 rfl (lv_at hl 0 rfl) ?_
    refine gt6_2 C hK hW ho (List.mem_cons_of_mem _ mw95) (fun _ h9 => List.mem_cons_of_mem _ (inU_wsX60 _ h9)) dX6_sharesOff_14 ?_
    refine lv_iload_n hx hb dX6_sharesOff_17 rfl (lv_at hl 2 rfl) ?_
    refine k_iald C hK hW (shC_lt (sl6_2 ho).1 (by decide)) (ceC_14 (sl6_2 ho).1 (sl6_2 ho).2) hq.1 dX6_sharesOff_18 ?_
    have hq := hq.2
    refine k_ci hW (va_runV (As := [.int (gI h (o + 1) (ix x2))]) (rest := []) (k_fix C) (c_X6_comesTo l G ho h (gI h (o + 1) (ix x2)) _ hq) (cwV 1 C.2.2.2.2.2.1 (gU_V mw1314 mw1291 mw1292 mw73 mw1293) rfl rfl rfl (by decide +kernel) ⟨Nat.le_of_ble_eq_true rfl, Nat.le_of_ble_eq_true rfl⟩) (k_preV hK hW (shC_lt ho (by decide)) (ceC_6 ho) (q := (RX6, TX6, 7)) rfl) rfl rfl hl.1 rfl (lv_room (Nat.le_of_ble_eq_true rfl)) dX6_sharesOff_19 ⟨Nat.le_refl 0, Nat.le_refl 0⟩) (fun r2 h3 H locs hq hW => ?_)
    rw [hq.1] at hW
    have hq := hq.2
    refine lv_aload_n hx hb dX6_sharesOff_22 rfl (lv_at hl 0 rfl) ?_
    refine lv_aload_n hx hb dX6_sharesOff_23 rfl (lv_at hl 0 rfl) ?_
    refine gt6_4 C hK hW ho (List.mem_cons_of_mem _ mw97) (fun _ h9 => List.mem_cons_of_mem _ (inU_wsX60 _ h9)) dX6_sharesOff_24 ?_
    refine lv_iload_n hx hb dX6_sharesOff_27 rfl (lv_at hl 2 rfl) ?_
    refine k_iald C hK hW (shC_lt (sl6_4 ho).1 (by decide)) (ceC_14 (sl6_4 ho).1 (sl6_4 ho).2) hq.1 dX6_sharesOff_28 ?_
    have hq := hq.2
    refine lv_i2l (v := (gI h (o + 3) (ix x2)).toInt64) hx hb dX6_sharesOff_29 rfl ?_
    refine k_ci hW (va_runV (As := [.long ((gI h (o + 3) (ix x2)).toInt64)]) (rest := [.int r2]) (k_fix C) (c_X6_restOf l G ho h ((gI h (o + 3) (ix x2)).toInt64) _ hq) (cwV 1 C.2.2.2.2.2.1 (gU_V mw1250 mw1251 mw1252 mw73 mw1253) rfl rfl rfl (by decide +kernel) ⟨Nat.le_of_ble_eq_true rfl, Nat.le_of_ble_eq_true rfl⟩) (k_preV hK hW (shC_lt ho (by decide)) (ceC_6 ho) (q := (RX6, TX6, 7)) rfl) rfl rfl hl.1 rfl (lv_room (Nat.le_of_ble_eq_true rfl)) dX6_sharesOff_30 ⟨Nat.le_refl 0, Nat.le_refl 0⟩) (fun r4 h5 H locs hq hW => ?_)
    rw [hq.1] at hW
    have hq := hq.2
    refine lv_icmp_eq (tgt := 42) hx hb dX6_sharesOff_33 (by decide) (fun c6 => ?_) (fun c6 => ?_)
    · have hq := hq.1 c6
      obtain ⟨x2_7, ex2_7⟩ : ∃ y : Int32, y = x2 + 1 := ⟨_, rfl⟩
      have hq := hq x2_7 ex2_7
      refine lv_iinc (v := x2_7) (lv' := [(2, .int x2_7), (0, .ref (G.2.2 o)), (1, .int x1)]) hx hb dX6_sharesOff_42 hl (k := 2) rfl (by rw [ex2_7]; rfl) (by decide) rfl (fun ls hl => ?_)
      refine lv_goto (tgt := 4) hx hb dX6_sharesOff_45 (by decide) ?_
      exact hX4 _ _ _ _ _ hW (lv_sub hl [1, 2, 0] rfl) hq
    · have hq := hq.2 c6
      refine lv_iload_n hx hb dX6_sharesOff_36 rfl (lv_at hl 1 rfl) ?_
      refine lv_iconst (v := 1) hx hb dX6_sharesOff_37 (by decide) ?_
      refine lv_iload_n hx hb dX6_sharesOff_38 rfl (lv_at hl 2 rfl) ?_
      refine k_ishl hx hb dX6_sharesOff_39 ?_
      refine lv_ior hx hb dX6_sharesOff_40 ?_
      refine lv_topi (fun x1_8 ex1_8 => ?_)
      have hq := hq x1_8 ex1_8
      refine lv_istore_n (lv' := [(1, .int x1_8), (0, .ref (G.2.2 o)), (2, .int x2)]) hx hb dX6_sharesOff_41 rfl hl (by decide) rfl (fun ls hl => ?_)
      obtain ⟨x2_9, ex2_9⟩ : ∃ y : Int32, y = x2 + 1 := ⟨_, rfl⟩
      have hq := hq x2_9 ex2_9
      refine lv_iinc (v := x2_9) (lv' := [(2, .int x2_9), (1, .int x1_8), (0, .ref (G.2.2 o))]) hx hb dX6_sharesOff_42 hl (k := 2) rfl (by rw [ex2_9]; rfl) (by decide) rfl (fun ls hl => ?_)
      refine lv_goto (tgt := 4) hx hb dX6_sharesOff_45 (by decide) ?_
      exact hX4 _ _ _ _ _ hW (lv_sub hl [2, 1, 0] rfl) hq
theorem k_X6_sharesOff_4 {o : Nat} (ho : shC o = 6) {Q : Int32 → Prop} {h : hp} (C : kC p s m args meth c cX6_sharesOff 3 (some .int) RX6 wUX6_sharesOff) (hK : kK G s) {x1 : Int32} {x2 : Int32} {H : Heap} {locs : List Loc} {ls : Array Slot} (hW : kW SC G h (aS SC G) s H locs) (hl : lv_has ls 3 [(0, .ref (G.2.2 o)), (1, .int x1), (2, .int x2)]) (hq : w_X6_sharesOff_4 o Q h x1 x2) : W p l e rmX6_sharesOff s m args below meth c H locs 0 0 (MQ below (va_Qi (fun r9 h9 => h9 = h ∧ Q r9) (kB SC G) (aS SC G)) args s 0 0 (aS SC G)) (F0 m 4 ls []) := by
  have key := hq (fun (q : Int32 × Int32) => ∀ (H : Heap) (locs : List Loc) (ls : Array Slot), kW SC G h (aS SC G) s H locs → lv_has ls 3 [(0, .ref (G.2.2 o)), (1, .int q.1), (2, .int q.2)] → W p l e rmX6_sharesOff s m args below meth c H locs 0 0 (MQ below (va_Qi (fun r9 h9 => h9 = h ∧ Q r9) (kB SC G) (aS SC G)) args s 0 0 (aS SC G)) (F0 m 4 ls []))
    (fun q hq H locs ls hW hl => k_X6_sharesOff_b4 ho C hK (fun x1 x2 H locs ls hW hl hI => hI H locs ls hW hl) hW hl hq)
  exact key _ _ _ hW hl
theorem k_X6_sharesOff_0 {o : Nat} (ho : shC o = 6) {Q : Int32 → Prop} {h : hp} (C : kC p s m args meth c cX6_sharesOff 3 (some .int) RX6 wUX6_sharesOff) (hK : kK G s) {H : Heap} {locs : List Loc} {ls : Array Slot} (hW : kW SC G h (aS SC G) s H locs) (hl : lv_has ls 3 [(0, .ref (G.2.2 o))]) (hq : w_X6_sharesOff_0 o Q h) : W p l e rmX6_sharesOff s m args below meth c H locs 0 0 (MQ below (va_Qi (fun r9 h9 => h9 = h ∧ Q r9) (kB SC G) (aS SC G)) args s 0 0 (aS SC G)) (F0 m 0 ls []) := by
  have hx := C.1
  have hb := C.2.1
  unfold w_X6_sharesOff_0 at hq
  refine lv_iconst (v := 0) hx hb dX6_sharesOff_0 (by decide) ?_
  refine lv_istore_n (lv' := [(1, .int 0), (0, .ref (G.2.2 o))]) hx hb dX6_sharesOff_1 rfl hl (by decide) rfl (fun ls hl => ?_)
  refine lv_iconst (v := 0) hx hb dX6_sharesOff_2 (by decide) ?_
  refine lv_istore_n (lv' := [(2, .int 0), (1, .int 0), (0, .ref (G.2.2 o))]) hx hb dX6_sharesOff_3 rfl hl (by decide) rfl (fun ls hl => ?_)
  exact k_X6_sharesOff_4 ho C hK hW (lv_sub hl [2, 1, 0] rfl) hq
theorem c_X6_sharesOff (l : Launch) (G : wG) {o : Nat} (ho : shC o = 6) (h : hp) (Q : Int32 → Prop) (hq : w_X6_sharesOff o h Q) : ctI l SC G yX6_sharesOff wUX6_sharesOff rmX6_sharesOff h [.ref (G.2.2 o)] (fun r9 h9 => h9 = h ∧ Q r9) := by
  refine k_start (cc := cX6_sharesOff) (maxL := 3) (rt := (some .int)) (own := RX6) (by decide +kernel) rfl rfl (Nat.le_of_ble_eq_true rfl) ?_
  intro p e s m below meth c ls C hK hW hl
  exact k_X6_sharesOff_0 ho C hK hW hl hq
theorem k_X6_offRow_b7 {o : Nat} (ho : shC o = 6) {Q : Int32 → hp → Prop} {X7 : Int32 × Int32 × Int32 × hp → Prop} {x1 : Int32} (C : kC p s m args meth c cX6_offRow 6 (some .int) RX6 wUX6_offRow) (hK : kK G s) (hX7 : ∀ (x2 : Int32) (x3 : Int32) (x4 : Int32) (h : hp) (H : Heap) (locs : List Loc) (ls : Array Slot), kW SC G h (aS SC G) s H locs → lv_has ls 6 [(0, .ref (G.2.2 o)), (1, .int x1), (2, .int x2), (3, .int x3), (4, .int x4)] → X7 (x2, x3, x4, h) → W p l e rmX6_offRow s m args below meth c H locs 0 0 (MQ below (va_Qi Q (kB SC G) (aS SC G)) args s 0 0 (aS SC G)) (F0 m 7 ls [])) {x2 : Int32} {x3 : Int32} {x4 : Int32} {h : hp} {H : Heap} {locs : List Loc} {ls : Array Slot} (hW : kW SC G h (aS SC G) s H locs) (hl : lv_has ls 6 [(0, .ref (G.2.2 o)), (1, .int x1), (2, .int x2), (3, .int x3), (4, .int x4)]) (hq : w_X6_offRow_b7 o Q x1 X7 x2 x3 x4 h) : W p l e rmX6_offRow s m args below meth c H locs 0 0 (MQ below (va_Qi Q (kB SC G) (aS SC G)) args s 0 0 (aS SC G)) (F0 m 7 ls []) := by
  have hx := C.1
  have hb := C.2.1
  unfold w_X6_offRow_b7 at hq
  refine lv_iload hx hb dX6_offRow_7 (lv_at hl 4 rfl) ?_
  refine lv_iconst (v := 1) hx hb dX6_offRow_9 (by decide) ?_
  refine lv_aload_n hx hb dX6_offRow_10 rfl (lv_at hl 0 rfl) ?_
  refine gt6_0 C hK hW ho (List.mem_cons_of_mem _ mw93) (fun _ h9 => List.mem_cons_of_mem _ (inU_wsX60 _ h9)) dX6_offRow_11 ?_
  refine k_ishl hx hb dX6_offRow_14 ?_
  refine lv_icmp_ge (tgt := 75) hx hb dX6_offRow_15 (by decide) (fun c1 => ?_) (fun c1 => ?_)
  · have hq := hq.1 c1
    refine lv_iload_n hx hb dX6_offRow_75 rfl (lv_at hl 2 rfl) ?_
    exact k_iret rfl C hW dX6_offRow_76 hq
  · have hq := hq.2 c1
    refine lv_iload hx hb dX6_offRow_18 (lv_at hl 4 rfl) ?_
    refine k_ci hW (va_runS (As := [.int x4]) (rest := []) (k_fix C) (c_J6_bitCount_0f7a4 l G h x4 _ hq) (va_cwS 1 C.2.2.2.2.2.1 (gU_S mw1230 mw1231 mw1232 mw1233) rfl rfl rfl (by decide +kernel) ⟨Nat.le_of_ble_eq_true rfl, Nat.le_of_ble_eq_true rfl⟩) (k_preS hK hW) rfl rfl hl.1 rfl (lv_room (Nat.le_of_ble_eq_true rfl)) dX6_offRow_20 ⟨Nat.le_refl 0, Nat.le_refl 0⟩) (fun r2 h3 H locs hq hW => ?_)
    rw [hq.1] at hW
    have hq := hq.2
    refine lv_iload_n hx hb dX6_offRow_23 rfl (lv_at hl 1 rfl) ?_
    refine lv_icmp_ne (tgt := 69) hx hb dX6_offRow_24 (by decide) (fun c4 => ?_) (fun c4 => ?_)
    · have hq := hq.1 c4
      obtain ⟨x4_5, ex4_5⟩ : ∃ y : Int32, y = x4 + 1 := ⟨_, rfl⟩
      have hq := hq x4_5 ex4_5
      refine lv_iinc (v := x4_5) (lv' := [(4, .int x4_5), (0, .ref (G.2.2 o)), (1, .int x1), (2, .int x2), (3, .int x3)]) hx hb dX6_offRow_69 hl (k := 4) rfl (by rw [ex4_5]; rfl) (by decide) rfl (fun ls hl => ?_)
      refine lv_goto (tgt := 7) hx hb dX6_offRow_72 (by decide) ?_
      exact hX7 _ _ _ _ _ _ _ hW (lv_sub hl [1, 2, 3, 4, 0] rfl) hq
    · have hq := hq.2 c4
      refine lv_aload_n hx hb dX6_offRow_27 rfl (lv_at hl 0 rfl) ?_
      refine lv_iload hx hb dX6_offRow_28 (lv_at hl 4 rfl) ?_
      refine k_ci hW (va_runV (As := [.int x4]) (rest := []) (k_fix C) (c_X6_isSet l G ho h x4 _ hq) (cwV 1 C.2.2.2.2.2.1 (gU_V mw1308 mw1227 mw1228 mw73 mw1229) rfl rfl rfl (by decide +kernel) ⟨Nat.le_of_ble_eq_true rfl, Nat.le_of_ble_eq_true rfl⟩) (k_preV hK hW (shC_lt ho (by decide)) (ceC_6 ho) (q := (RX6, TX6, 7)) rfl) rfl rfl hl.1 rfl (lv_room (Nat.le_of_ble_eq_true rfl)) dX6_offRow_30 ⟨Nat.le_refl 0, Nat.le_refl 0⟩) (fun r6 h7 H locs hq hW => ?_)
      rw [hq.1] at hW
      have hq := hq.2
      refine lv_if_eq (tgt := 69) hx hb dX6_offRow_33 (by decide) (fun c8 => ?_) (fun c8 => ?_)
      · have hq := hq.1 c8
        obtain ⟨x4_9, ex4_9⟩ : ∃ y : Int32, y = x4 + 1 := ⟨_, rfl⟩
        have hq := hq x4_9 ex4_9
        refine lv_iinc (v := x4_9) (lv' := [(4, .int x4_9), (0, .ref (G.2.2 o)), (1, .int x1), (2, .int x2), (3, .int x3)]) hx hb dX6_offRow_69 hl (k := 4) rfl (by rw [ex4_9]; rfl) (by decide) rfl (fun ls hl => ?_)
        refine lv_goto (tgt := 7) hx hb dX6_offRow_72 (by decide) ?_
        exact hX7 _ _ _ _ _ _ _ hW (lv_sub hl [1, 2, 3, 4, 0] rfl) hq
      · have hq := hq.2 c8
        refine lv_aload_n hx hb dX6_offRow_36 rfl (lv_at hl 0 rfl) ?_
        refine lv_iload hx hb dX6_offRow_37 (lv_at hl 4 rfl) ?_
        refine k_cv hW (va_runV (As := [.int x4]) (rest := []) (k_fix C) (c_X6_findRow l G ho h x4 _ hq) (cwV 1 C.2.2.2.2.2.1 (gU_V mw1309 mw1239 mw1240 mw73 mw1241) rfl rfl rfl (by decide +kernel) ⟨Nat.le_of_ble_eq_true rfl, Nat.le_of_ble_eq_true rfl⟩) (k_preV hK hW (shC_lt ho (by decide)) (ceC_6 ho) (q := (RX6, TX6, 7)) rfl) rfl rfl hl.1 rfl (lv_room (Nat.le_of_ble_eq_true rfl)) dX6_offRow_39 ⟨Nat.le_refl 0, Nat.le_refl 0⟩) (fun h10 H locs hq hW => ?_)
        refine lv_aload_n hx hb dX6_offRow_42 rfl (lv_at hl 0 rfl) ?_
        refine k_ci hW (va_runV (As := []) (rest := []) (k_fix C) (c_X6_sharesOff l G ho h10 _ hq) (cwV 0 C.2.2.2.2.2.1 (gU_V mw1310 mw1311 mw1312 mw73 mw1313) rfl rfl rfl (by decide +kernel) ⟨Nat.le_of_ble_eq_true rfl, Nat.le_of_ble_eq_true rfl⟩) (k_preV hK hW (shC_lt ho (by decide)) (ceC_6 ho) (q := (RX6, TX6, 7)) rfl) rfl rfl hl.1 rfl (lv_room (Nat.le_of_ble_eq_true rfl)) dX6_offRow_43 ⟨Nat.le_refl 0, Nat.le_refl 0⟩) (fun r11 h12 H locs hq hW => ?_)
        rw [hq.1] at hW
        have hq := hq.2
        refine lv_istore (lv' := [(5, .int r11), (0, .ref (G.2.2 o)), (1, .int x1), (2, .int x2), (3, .int x3), (4, .int x4)]) hx hb dX6_offRow_46 hl (by decide) rfl (fun ls hl => ?_)
        refine lv_iload_n hx hb dX6_offRow_48 rfl (lv_at hl 4 rfl) ?_
        refine lv_if_eq (tgt := 64) hx hb dX6_offRow_49 (by decide) (fun c13 => ?_) (fun c13 => ?_)
        · have hq := hq.1 c13
          refine lv_iload hx hb dX6_offRow_64 (lv_at hl 0 rfl) ?_
          refine lv_istore_n (lv' := [(2, .int r11), (5, .int r11), (0, .ref (G.2.2 o)), (1, .int x1), (3, .int x3), (4, .int x4)]) hx hb dX6_offRow_66 rfl hl (by decide) rfl (fun ls hl => ?_)
          refine lv_iconst (v := 1) hx hb dX6_offRow_67 (by decide) ?_
          refine lv_istore_n (lv' := [(3, .int 1), (2, .int r11), (5, .int r11), (0, .ref (G.2.2 o)), (1, .int x1), (4, .int x4)]) hx hb dX6_offRow_68 rfl hl (by decide) rfl (fun ls hl => ?_)
          obtain ⟨x4_14, ex4_14⟩ : ∃ y : Int32, y = x4 + 1 := ⟨_, rfl⟩
          have hq := hq x4_14 ex4_14
          refine lv_iinc (v := x4_14) (lv' := [(4, .int x4_14), (3, .int 1), (2, .int r11), (5, .int r11), (0, .ref (G.2.2 o)), (1, .int x1)]) hx hb dX6_offRow_69 hl (k := 5) rfl (by rw [ex4_14]; rfl) (by decide) rfl (fun ls hl => ?_)
          refine lv_goto (tgt := 7) hx hb dX6_offRow_72 (by decide) ?_
          exact hX7 _ _ _ _ _ _ _ hW (lv_sub hl [4, 5, 2, 1, 0] rfl) hq
        · have hq := hq.2 c13
          refine lv_iload hx hb dX6_offRow_52 (lv_at hl 0 rfl) ?_
          refine k_ci hW (va_runS (As := [.int r11]) (rest := []) (k_fix C) (c_J6_bitCount_0f7a4 l G h10 r11 _ hq) (va_cwS 1 C.2.2.2.2.2.1 (gU_S mw1230 mw1231 mw1232 mw1233) rfl rfl rfl (by decide +kernel) ⟨Nat.le_of_ble_eq_true rfl, Nat.le_of_ble_eq_true rfl⟩) (k_preS hK hW) rfl rfl hl.1 rfl (lv_room (Nat.le_of_ble_eq_true rfl)) dX6_offRow_54 ⟨Nat.le_refl 0, Nat.le_refl 0⟩) (fun r15 h16 H locs hq hW => ?_)
          rw [hq.1] at hW
          have hq := hq.2
          refine lv_iload_n hx hb dX6_offRow_57 rfl (lv_at hl 3 rfl) ?_
          refine k_ci hW (va_runS (As := [.int x2]) (rest := [.int r15]) (k_fix C) (c_J6_bitCount_0f7a4 l G h10 x2 _ hq) (va_cwS 1 C.2.2.2.2.2.1 (gU_S mw1230 mw1231 mw1232 mw1233) rfl rfl rfl (by decide +kernel) ⟨Nat.le_of_ble_eq_true rfl, Nat.le_of_ble_eq_true rfl⟩) (k_preS hK hW) rfl rfl hl.1 rfl (lv_room (Nat.le_of_ble_eq_true rfl)) dX6_offRow_58 ⟨Nat.le_refl 0, Nat.le_refl 0⟩) (fun r17 h18 H locs hq hW => ?_)
          rw [hq.1] at hW
          have hq := hq.2
          refine lv_icmp_ge (tgt := 69) hx hb dX6_offRow_61 (by decide) (fun c19 => ?_) (fun c19 => ?_)
          · have hq := hq.1 c19
            obtain ⟨x4_20, ex4_20⟩ : ∃ y : Int32, y = x4 + 1 := ⟨_, rfl⟩
            have hq := hq x4_20 ex4_20
            refine lv_iinc (v := x4_20) (lv' := [(4, .int x4_20), (5, .int r11), (0, .ref (G.2.2 o)), (1, .int x1), (2, .int x2), (3, .int x3)]) hx hb dX6_offRow_69 hl (k := 5) rfl (by rw [ex4_20]; rfl) (by decide) rfl (fun ls hl => ?_)
            refine lv_goto (tgt := 7) hx hb dX6_offRow_72 (by decide) ?_
            exact hX7 _ _ _ _ _ _ _ hW (lv_sub hl [2, 3, 4, 5, 0] rfl) hq
          · have hq := hq.2 c19
            refine lv_iload hx hb dX6_offRow_64 (lv_at hl 0 rfl) ?_
            refine lv_istore_n (lv' := [(2, .int r11), (5, .int r11), (0, .ref (G.2.2 o)), (1, .int x1), (3, .int x3), (4, .int x4)]) hx hb dX6_offRow_66 rfl hl (by decide) rfl (fun ls hl => ?_)
            refine lv_iconst (v := 1) hx hb dX6_offRow_67 (by decide) ?_
            refine lv_istore_n (lv' := [(3, .int 1), (2, .int r11), (5, .int r11), (0, .ref (G.2.2 o)), (1, .int x1), (4, .int x4)]) hx hb dX6_offRow_68 rfl hl (by decide) rfl (fun ls hl => ?_)
            obtain ⟨x4_21, ex4_21⟩ : ∃ y : Int32, y = x4 + 1 := ⟨_, rfl⟩
            have hq := hq x4_21 ex4_21
            refine lv_iinc (v := x4_21) (lv' := [(4, .int x4_21), (3, .int 1), (2, .int r11), (5, .int r11), (0, .ref (G.2.2 o)), (1, .int x1)]) hx hb dX6_offRow_69 hl (k := 5) rfl (by rw [ex4_21]; rfl) (by decide) rfl (fun ls hl => ?_)
            refine lv_goto (tgt := 7) hx hb dX6_offRow_72 (by decide) ?_
            exact hX7 _ _ _ _ _ _ _ hW (lv_sub hl [4, 5, 2, 1, 0] rfl) hq
theorem k_X6_offRow_7 {o : Nat} (ho : shC o = 6) {Q : Int32 → hp → Prop} {x1 : Int32} (C : kC p s m args meth c cX6_offRow 6 (some .int) RX6 wUX6_offRow) (hK : kK G s) {x2 : Int32} {x3 : Int32} {x4 : Int32} {h : hp} {H : Heap} {locs : List Loc} {ls : Array Slot} (hW : kW SC G h (aS SC G) s H locs) (hl : lv_has ls 6 [(0, .ref (G.2.2 o)), (1, .int x1), (2, .int x2), (3, .int x3), (4, .int x4)]) (hq : w_X6_offRow_7 o Q x1 x2 x3 x4 h) : W p l e rmX6_offRow s m args below meth c H locs 0 0 (MQ below (va_Qi Q (kB SC G) (aS SC G)) args s 0 0 (aS SC G)) (F0 m 7 ls []) := by
  have key := hq (fun (q : Int32 × Int32 × Int32 × hp) => ∀ (H : Heap) (locs : List Loc) (ls : Array Slot), kW SC G q.2.2.2 (aS SC G) s H locs → lv_has ls 6 [(0, .ref (G.2.2 o)), (1, .int x1), (2, .int q.1), (3, .int q.2.1), (4, .int q.2.2.1)] → W p l e rmX6_offRow s m args below meth c H locs 0 0 (MQ below (va_Qi Q (kB SC G) (aS SC G)) args s 0 0 (aS SC G)) (F0 m 7 ls []))
    (fun q hq H locs ls hW hl => k_X6_offRow_b7 ho C hK (fun x2 x3 x4 h H locs ls hW hl hI => hI H locs ls hW hl) hW hl hq)
  exact key _ _ _ hW hl
theorem k_X6_offRow_0 {o : Nat} (ho : shC o = 6) {Q : Int32 → hp → Prop} {x1 : Int32} {h : hp} (C : kC p s m args meth c cX6_offRow 6 (some .int) RX6 wUX6_offRow) (hK : kK G s) {H : Heap} {locs : List Loc} {ls : Array Slot} (hW : kW SC G h (aS SC G) s H locs) (hl : lv_has ls 6 [(0, .ref (G.2.2 o)), (1, .int x1)]) (hq : w_X6_offRow_0 o Q x1 h) : W p l e rmX6_offRow s m args below meth c H locs 0 0 (MQ below (va_Qi Q (kB SC G) (aS SC G)) args s 0 0 (aS SC G)) (F0 m 0 ls []) := by
  have hx := C.1
  have hb := C.2.1
  unfold w_X6_offRow_0 at hq
  refine lv_iconst (v := 0) hx hb dX6_offRow_0 (by decide) ?_
  refine lv_istore_n (lv' := [(2, .int 0), (0, .ref (G.2.2 o)), (1, .int x1)]) hx hb dX6_offRow_1 rfl hl (by decide) rfl (fun ls hl => ?_)
  refine lv_iconst (v := 0) hx hb dX6_offRow_2 (by decide) ?_
  refine lv_istore_n (lv' := [(3, .int 0), (2, .int 0), (0, .ref (G.2.2 o)), (1, .int x1)]) hx hb dX6_offRow_3 rfl hl (by decide) rfl (fun ls hl => ?_)
  refine lv_iconst (v := 1) hx hb dX6_offRow_4 (by decide) ?_
  refine lv_istore (lv' := [(4, .int 1), (3, .int 0), (2, .int 0), (0, .ref (G.2.2 o)), (1, .int x1)]) hx hb dX6_offRow_5 hl (by decide) rfl (fun ls hl => ?_)
  exact k_X6_offRow_7 ho C hK hW (lv_sub hl [3, 4, 2, 1, 0] rfl) hq
theorem c_X6_offRow (l : Launch) (G : wG) {o : Nat} (ho : shC o = 6) (h : hp) (x1 : Int32) (Q : Int32 → hp → Prop) (hq : w_X6_offRow o h x1 Q) : ctI l SC G yX6_offRow wUX6_offRow rmX6_offRow h [.ref (G.2.2 o), .int x1] Q := by
  refine k_start (cc := cX6_offRow) (maxL := 6) (rt := (some .int)) (own := RX6) (by decide +kernel) rfl rfl (Nat.le_of_ble_eq_true rfl) ?_
  intro p e s m below meth c ls C hK hW hl
  exact k_X6_offRow_0 ho C hK hW hl hq
end LINKS
