section LINKS
variable {p : Program} {l : Launch} {e : Env} {s : State} {m : MethodId} {args : Array Value} {below : List Frame} {meth : Method} {c : Code} {G : wG}
theorem k_X7_numberAt_31 {o : Nat} (ho : shC o = 7) {Q : Int32 → Prop} {x1 : Int32} {x2 : Int32} {h : hp} {s0 : Int32} (C : kC p s m args meth c cX7_numberAt 4 (some .int) RX7 wUX7_numberAt) (hK : kK G s) {H : Heap} {locs : List Loc} {ls : Array Slot} (hW : kW SC G h (aS SC G) s H locs) (hl : lv_has ls 4 [(0, .ref (G.2.2 o)), (1, .int x1), (2, .int x2)]) (hq : w_X7_numberAt_31 o Q x1 x2 h s0) : W p l e rmX7_numberAt s m args below meth c H locs 0 0 (MQ below (va_Qi (fun r9 h9 => h9 = h ∧ Q r9) (kB SC G) (aS SC G)) args s 0 0 (aS SC G)) (F0 m 31 ls [.int s0]) := by
  have hx := C.1
  have hb := C.2.1
  unfold w_X7_numberAt_31 at hq
  refine lv_istore_n (lv' := [(3, .int s0), (0, .ref (G.2.2 o)), (1, .int x1), (2, .int x2)]) hx hb dX7_numberAt_31 rfl hl (by decide) rfl (fun ls hl => ?_)
  refine lv_iload_n hx hb dX7_numberAt_32 rfl (lv_at hl 0 rfl) ?_
  refine lv_if_eq (tgt := 50) hx hb dX7_numberAt_33 (by decide) (fun c5 => ?_) (fun c5 => ?_)
  · have hq := hq.1 c5
    refine lv_iconst (v := 0) hx hb dX7_numberAt_50 (by decide) ?_
    exact k_iret rfl C hW dX7_numberAt_51 ⟨rfl, hq⟩
  · have hq := hq.2 c5
    refine lv_aload_n hx hb dX7_numberAt_36 rfl (lv_at hl 1 rfl) ?_
    refine gt7_3 C hK hW ho (List.mem_cons_of_mem _ mw66) (fun _ h9 => List.mem_cons_of_mem _ (inU_wsX70 _ h9)) dX7_numberAt_37 ?_
    refine lv_iload_n hx hb dX7_numberAt_40 rfl (lv_at hl 2 rfl) ?_
    refine lv_bipush (v := 6) hx hb dX7_numberAt_41 (by decide) ?_
    refine lv_imul hx hb dX7_numberAt_43 ?_
    refine lv_iload_n hx hb dX7_numberAt_44 rfl (lv_at hl 3 rfl) ?_
    refine lv_iadd hx hb dX7_numberAt_45 ?_
    refine k_iald C hK hW (shC_lt (sl7_3 ho).1 (by decide)) (ceC_14 (sl7_3 ho).1 (sl7_3 ho).2) hq.1 dX7_numberAt_46 ?_
    have hq := hq.2
    refine lv_goto (tgt := 51) hx hb dX7_numberAt_47 (by decide) ?_
    exact k_iret rfl C hW dX7_numberAt_51 ⟨rfl, hq⟩
theorem k_X7_numberAt_0 {o : Nat} (ho : shC o = 7) {Q : Int32 → Prop} {x1 : Int32} {x2 : Int32} {h : hp} (C : kC p s m args meth c cX7_numberAt 4 (some .int) RX7 wUX7_numberAt) (hK : kK G s) {H : Heap} {locs : List Loc} {ls : Array Slot} (hW : kW SC G h (aS SC G) s H locs) (hl : lv_has ls 4 [(0, .ref (G.2.2 o)), (1, .int x1), (2, .int x2)]) (hq : w_X7_numberAt_0 o Q x1 x2 h) : W p l e rmX7_numberAt s m args below meth c H locs 0 0 (MQ below (va_Qi (fun r9 h9 => h9 = h ∧ Q r9) (kB SC G) (aS SC G)) args s 0 0 (aS SC G)) (F0 m 0 ls []) := by
  have hx := C.1
  have hb := C.2.1
  unfold w_X7_numberAt_0 at hq
  refine lv_iload_n hx hb dX7_numberAt_0 rfl (lv_at hl 1 rfl) ?_
  refine lv_if_lt (tgt := 30) hx hb dX7_numberAt_1 (by decide) (fun c1 => ?_) (fun c1 => ?_)
  · have hq := hq.1 c1
    refine lv_iconst (v := 0) hx hb dX7_numberAt_30 (by decide) ?_
    exact k_X7_numberAt_31 ho C hK hW (lv_sub hl [0, 1, 2] rfl) hq
  · have hq := hq.2 c1
    refine lv_iload_n hx hb dX7_numberAt_4 rfl (lv_at hl 1 rfl) ?_
    refine lv_aload_n hx hb dX7_numberAt_5 rfl (lv_at hl 0 rfl) ?_
    refine gt7_0 C hK hW ho (List.mem_cons_of_mem _ mw61) (fun _ h9 => List.mem_cons_of_mem _ (inU_wsX70 _ h9)) dX7_numberAt_6 ?_
    refine lv_icmp_ge (tgt := 30) hx hb dX7_numberAt_9 (by decide) (fun c2 => ?_) (fun c2 => ?_)
    · have hq := hq.1 c2
      refine lv_iconst (v := 0) hx hb dX7_numberAt_30 (by decide) ?_
      exact k_X7_numberAt_31 ho C hK hW (lv_sub hl [0, 1, 2] rfl) hq
    · have hq := hq.2 c2
      refine lv_iload_n hx hb dX7_numberAt_12 rfl (lv_at hl 2 rfl) ?_
      refine lv_if_lt (tgt := 30) hx hb dX7_numberAt_13 (by decide) (fun c3 => ?_) (fun c3 => ?_)
      · have hq := hq.1 c3
        refine lv_iconst (v := 0) hx hb dX7_numberAt_30 (by decide) ?_
        exact k_X7_numberAt_31 ho C hK hW (lv_sub hl [0, 1, 2] rfl) hq
      · have hq := hq.2 c3
        refine lv_iload_n hx hb dX7_numberAt_16 rfl (lv_at hl 2 rfl) ?_
        refine lv_aload_n hx hb dX7_numberAt_17 rfl (lv_at hl 0 rfl) ?_
        refine gt7_1 C hK hW ho (List.mem_cons_of_mem _ mw63) (fun _ h9 => List.mem_cons_of_mem _ (inU_wsX70 _ h9)) dX7_numberAt_18 ?_
        refine lv_iload_n hx hb dX7_numberAt_21 rfl (lv_at hl 1 rfl) ?_
        refine k_iald C hK hW (shC_lt (sl7_1 ho).1 (by decide)) (ceC_14 (sl7_1 ho).1 (sl7_1 ho).2) hq.1 dX7_numberAt_22 ?_
        have hq := hq.2
        refine lv_icmp_ge (tgt := 30) hx hb dX7_numberAt_23 (by decide) (fun c4 => ?_) (fun c4 => ?_)
        · have hq := hq.1 c4
          refine lv_iconst (v := 0) hx hb dX7_numberAt_30 (by decide) ?_
          exact k_X7_numberAt_31 ho C hK hW (lv_sub hl [0, 1, 2] rfl) hq
        · have hq := hq.2 c4
          refine lv_iconst (v := 1) hx hb dX7_numberAt_26 (by decide) ?_
          refine lv_goto (tgt := 31) hx hb dX7_numberAt_27 (by decide) ?_
          exact k_X7_numberAt_31 ho C hK hW (lv_sub hl [0, 1, 2] rfl) hq
theorem c_X7_numberAt (l : Launch) (G : wG) {o : Nat} (ho : shC o = 7) (h : hp) (x1 : Int32) (x2 : Int32) (Q : Int32 → Prop) (hq : w_X7_numberAt o h x1 x2 Q) : ctI l SC G yX7_numberAt wUX7_numberAt rmX7_numberAt h [.ref (G.2.2 o), .int x1, .int x2] (fun r9 h9 => h9 = h ∧ Q r9) := by
  refine k_start (cc := cX7_numberAt) (maxL := 4) (rt := (some .int)) (own := RX7) (by decide +kernel) rfl rfl (Nat.le_of_ble_eq_true rfl) ?_
  intro p e s m below meth c ls C hK hW hl
  exact k_X7_numberAt_0 ho C hK hW hl hq
theorem k_X7_comesTo_b6 {o : Nat} (ho : shC o = 7) {Q : Int64 → Prop} {X6 : Int64 × Int32 → Prop} {x1 : Int32} {x2 : Int64} {h : hp} (C : kC p s m args meth c cX7_comesTo 7 (some .long) RX7 wUX7_comesTo) (hK : kK G s) (hX6 : ∀ (x4 : Int64) (x6 : Int32) (H : Heap) (locs : List Loc) (ls : Array Slot), kW SC G h (aS SC G) s H locs → lv_has ls 7 [(0, .ref (G.2.2 o)), (1, .int x1), (2, .long x2), (4, .long x4), (6, .int x6)] → X6 (x4, x6) → W p l e rmX7_comesTo s m args below meth c H locs 0 0 (MQ below (va_Ql (fun r9 h9 => h9 = h ∧ Q r9) (kB SC G) (aS SC G)) args s 0 0 (aS SC G)) (F0 m 6 ls [])) {x4 : Int64} {x6 : Int32} {H : Heap} {locs : List Loc} {ls : Array Slot} (hW : kW SC G h (aS SC G) s H locs) (hl : lv_has ls 7 [(0, .ref (G.2.2 o)), (1, .int x1), (2, .long x2), (4, .long x4), (6, .int x6)]) (hq : w_X7_comesTo_b6 o Q x1 x2 h X6 x4 x6) : W p l e rmX7_comesTo s m args below meth c H locs 0 0 (MQ below (va_Ql (fun r9 h9 => h9 = h ∧ Q r9) (kB SC G) (aS SC G)) args s 0 0 (aS SC G)) (F0 m 6 ls []) := by
  have hx := C.1
  have hb := C.2.1
  unfold w_X7_comesTo_b6 at hq
  refine lv_iload hx hb dX7_comesTo_6 (lv_at hl 4 rfl) ?_
  refine lv_if_lt (tgt := 32) hx hb dX7_comesTo_8 (by decide) (fun c1 => ?_) (fun c1 => ?_)
  · have hq := hq.1 c1
    refine lv_lload hx hb dX7_comesTo_32 (lv_at hl 3 rfl) ?_
    exact k_lret rfl C hW dX7_comesTo_34 ⟨rfl, hq⟩
  · have hq := hq.2 c1
    refine lv_lload hx hb dX7_comesTo_11 (lv_at hl 3 rfl) ?_
    refine lv_lload_n hx hb dX7_comesTo_13 rfl (lv_at hl 2 rfl) ?_
    refine lv_lmul hx hb dX7_comesTo_14 ?_
    refine lv_aload_n hx hb dX7_comesTo_15 rfl (lv_at hl 0 rfl) ?_
    refine lv_iload_n hx hb dX7_comesTo_16 rfl (lv_at hl 1 rfl) ?_
    refine lv_iload hx hb dX7_comesTo_17 (lv_at hl 4 rfl) ?_
    refine k_ci hW (va_runV (As := [.int x1, .int x6]) (rest := [.long (x4 * x2)]) (k_fix C) (c_X7_numberAt l G ho h x1 x6 _ hq) (cwV 2 C.2.2.2.2.2.1 (gU_V mw785 mw751 mw752 mw23 mw753) rfl rfl rfl (by decide +kernel) ⟨Nat.le_of_ble_eq_true rfl, Nat.le_of_ble_eq_true rfl⟩) (k_preV hK hW (shC_lt ho (by decide)) (ceC_7 ho) (q := (RX7, TX7, 10)) rfl) rfl rfl hl.1 rfl (lv_room (Nat.le_of_ble_eq_true rfl)) dX7_comesTo_19 ⟨Nat.le_refl 0, Nat.le_refl 0⟩) (fun r2 h3 H locs hq hW => ?_)
    rw [hq.1] at hW
    have hq := hq.2
    refine lv_i2l (v := r2.toInt64) hx hb dX7_comesTo_22 rfl ?_
    refine lv_ladd hx hb dX7_comesTo_23 ?_
    refine lv_topl (fun x4_4 ex4_4 => ?_)
    have hq := hq x4_4 ex4_4
    refine lv_lstore (lv' := [(4, .long x4_4), (0, .ref (G.2.2 o)), (1, .int x1), (2, .long x2), (6, .int x6)]) hx hb dX7_comesTo_24 hl (by decide) rfl (fun ls hl => ?_)
    obtain ⟨x6_5, ex6_5⟩ : ∃ y : Int32, y = x6 + (-1) := ⟨_, rfl⟩
    have hq := hq x6_5 ex6_5
    refine lv_iinc (v := x6_5) (lv' := [(6, .int x6_5), (4, .long x4_4), (0, .ref (G.2.2 o)), (1, .int x1), (2, .long x2)]) hx hb dX7_comesTo_26 hl (k := 4) rfl (by rw [ex6_5]; rfl) (by decide) rfl (fun ls hl => ?_)
    refine lv_goto (tgt := 6) hx hb dX7_comesTo_29 (by decide) ?_
    exact hX6 _ _ _ _ _ hW (lv_sub hl [2, 3, 4, 1, 0] rfl) hq
theorem k_X7_comesTo_6 {o : Nat} (ho : shC o = 7) {Q : Int64 → Prop} {x1 : Int32} {x2 : Int64} {h : hp} (C : kC p s m args meth c cX7_comesTo 7 (some .long) RX7 wUX7_comesTo) (hK : kK G s) {x4 : Int64} {x6 : Int32} {H : Heap} {locs : List Loc} {ls : Array Slot} (hW : kW SC G h (aS SC G) s H locs) (hl : lv_has ls 7 [(0, .ref (G.2.2 o)), (1, .int x1), (2, .long x2), (4, .long x4), (6, .int x6)]) (hq : w_X7_comesTo_6 o Q x1 x2 h x4 x6) : W p l e rmX7_comesTo s m args below meth c H locs 0 0 (MQ below (va_Ql (fun r9 h9 => h9 = h ∧ Q r9) (kB SC G) (aS SC G)) args s 0 0 (aS SC G)) (F0 m 6 ls []) := by
  have key := hq (fun (q : Int64 × Int32) => ∀ (H : Heap) (locs : List Loc) (ls : Array Slot), kW SC G h (aS SC G) s H locs → lv_has ls 7 [(0, .ref (G.2.2 o)), (1, .int x1), (2, .long x2), (4, .long q.1), (6, .int q.2)] → W p l e rmX7_comesTo s m args below meth c H locs 0 0 (MQ below (va_Ql (fun r9 h9 => h9 = h ∧ Q r9) (kB SC G) (aS SC G)) args s 0 0 (aS SC G)) (F0 m 6 ls []))
    (fun q hq H locs ls hW hl => k_X7_comesTo_b6 ho C hK (fun x4 x6 H locs ls hW hl hI => hI H locs ls hW hl) hW hl hq)
  exact key _ _ _ hW hl
theorem k_X7_comesTo_0 {o : Nat} (ho : shC o = 7) {Q : Int64 → Prop} {x1 : Int32} {x2 : Int64} {h : hp} (C : kC p s m args meth c cX7_comesTo 7 (some .long) RX7 wUX7_comesTo) (hK : kK G s) {H : Heap} {locs : List Loc} {ls : Array Slot} (hW : kW SC G h (aS SC G) s H locs) (hl : lv_has ls 7 [(0, .ref (G.2.2 o)), (1, .int x1), (2, .long x2)]) (hq : w_X7_comesTo_0 o Q x1 x2 h) : W p l e rmX7_comesTo s m args below meth c H locs 0 0 (MQ below (va_Ql (fun r9 h9 => h9 = h ∧ Q r9) (kB SC G) (aS SC G)) args s 0 0 (aS SC G)) (F0 m 0 ls []) := by
  have hx := C.1
  have hb := C.2.1
  unfold w_X7_comesTo_0 at hq
  refine lv_lconst (v := 0) hx hb dX7_comesTo_0 (by decide) ?_
  refine lv_lstore (lv' := [(4, .long 0), (0, .ref (G.2.2 o)), (1, .int x1), (2, .long x2)]) hx hb dX7_comesTo_1 hl (by decide) rfl (fun ls hl => ?_)
  refine lv_iconst (v := 5) hx hb dX7_comesTo_3 (by decide) ?_
  refine lv_istore (lv' := [(6, .int 5), (4, .long 0), (0, .ref (G.2.2 o)), (1, .int x1), (2, .long x2)]) hx hb dX7_comesTo_4 hl (by decide) rfl (fun ls hl => ?_)
  exact k_X7_comesTo_6 ho C hK hW (lv_sub hl [2, 3, 4, 1, 0] rfl) hq
theorem c_X7_comesTo (l : Launch) (G : wG) {o : Nat} (ho : shC o = 7) (h : hp) (x1 : Int32) (x2 : Int64) (Q : Int64 → Prop) (hq : w_X7_comesTo o h x1 x2 Q) : ctL l SC G yX7_comesTo wUX7_comesTo rmX7_comesTo h [.ref (G.2.2 o), .int x1, .long x2] (fun r9 h9 => h9 = h ∧ Q r9) := by
  refine k_start (cc := cX7_comesTo) (maxL := 7) (rt := (some .long)) (own := RX7) (by decide +kernel) rfl rfl (Nat.le_of_ble_eq_true rfl) ?_
  intro p e s m below meth c ls C hK hW hl
  exact k_X7_comesTo_0 ho C hK hW hl hq
theorem k_X7_isSomeBelowZero_b2 {o : Nat} (ho : shC o = 7) {Q : Int32 → Prop} {X2 : Int32 → Prop} {x1 : Int32} {h : hp} (C : kC p s m args meth c cX7_isSomeBelowZero 3 (some .boolean) RX7 wUX7_isSomeBelowZero) (hK : kK G s) (hX2 : ∀ (x2 : Int32) (H : Heap) (locs : List Loc) (ls : Array Slot), kW SC G h (aS SC G) s H locs → lv_has ls 3 [(0, .ref (G.2.2 o)), (1, .int x1), (2, .int x2)] → X2 x2 → W p l e rmX7_isSomeBelowZero s m args below meth c H locs 0 0 (MQ below (va_Qi (fun r9 h9 => h9 = h ∧ Q r9) (kB SC G) (aS SC G)) args s 0 0 (aS SC G)) (F0 m 2 ls [])) {x2 : Int32} {H : Heap} {locs : List Loc} {ls : Array Slot} (hW : kW SC G h (aS SC G) s H locs) (hl : lv_has ls 3 [(0, .ref (G.2.2 o)), (1, .int x1), (2, .int x2)]) (hq : w_X7_isSomeBelowZero_b2 o Q x1 h X2 x2) : W p l e rmX7_isSomeBelowZero s m args below meth c H locs 0 0 (MQ below (va_Qi (fun r9 h9 => h9 = h ∧ Q r9) (kB SC G) (aS SC G)) args s 0 0 (aS SC G)) (F0 m 2 ls []) := by
  have hx := C.1
  have hb := C.2.1
  unfold w_X7_isSomeBelowZero_b2 at hq
  refine lv_iload_n hx hb dX7_isSomeBelowZero_2 rfl (lv_at hl 2 rfl) ?_
  refine lv_bipush (v := 6) hx hb dX7_isSomeBelowZero_3 (by decide) ?_
  refine lv_icmp_ge (tgt := 25) hx hb dX7_isSomeBelowZero_5 (by decide) (fun c1 => ?_) (fun c1 => ?_)
  · have hq := hq.1 c1
    refine lv_iconst (v := 0) hx hb dX7_isSomeBelowZero_25 (by decide) ?_
    exact k_zret rfl isZ_0.1 C hW dX7_isSomeBelowZero_26 ⟨rfl, hq⟩
  · have hq := hq.2 c1
    refine lv_aload_n hx hb dX7_isSomeBelowZero_8 rfl (lv_at hl 0 rfl) ?_
    refine lv_iload_n hx hb dX7_isSomeBelowZero_9 rfl (lv_at hl 1 rfl) ?_
    refine lv_iload_n hx hb dX7_isSomeBelowZero_10 rfl (lv_at hl 2 rfl) ?_
    refine k_ci hW (va_runV (As := [.int x1, .int x2]) (rest := []) (k_fix C) (c_X7_numberAt l G ho h x1 x2 _ hq) (cwV 2 C.2.2.2.2.2.1 (gU_V mw785 mw751 mw752 mw23 mw753) rfl rfl rfl (by decide +kernel) ⟨Nat.le_of_ble_eq_true rfl, Nat.le_of_ble_eq_true rfl⟩) (k_preV hK hW (shC_lt ho (by decide)) (ceC_7 ho) (q := (RX7, TX7, 10)) rfl) rfl rfl hl.1 rfl (lv_room (Nat.le_of_ble_eq_true rfl)) dX7_isSomeBelowZero_11 ⟨Nat.le_refl 0, Nat.le_refl 0⟩) (fun r2 h3 H locs hq hW => ?_)
    rw [hq.1] at hW
    have hq := hq.2
    refine lv_if_ge (tgt := 19) hx hb dX7_isSomeBelowZero_14 (by decide) (fun c4 => ?_) (fun c4 => ?_)
    · have hq := hq.1 c4
      obtain ⟨x2_5, ex2_5⟩ : ∃ y : Int32, y = x2 + 1 := ⟨_, rfl⟩
      have hq := hq x2_5 ex2_5
      refine lv_iinc (v := x2_5) (lv' := [(2, .int x2_5), (0, .ref (G.2.2 o)), (1, .int x1)]) hx hb dX7_isSomeBelowZero_19 hl (k := 2) rfl (by rw [ex2_5]; rfl) (by decide) rfl (fun ls hl => ?_)
      refine lv_goto (tgt := 2) hx hb dX7_isSomeBelowZero_22 (by decide) ?_
      exact hX2 _ _ _ _ hW (lv_sub hl [1, 2, 0] rfl) hq
    · have hq := hq.2 c4
      refine lv_iconst (v := 1) hx hb dX7_isSomeBelowZero_17 (by decide) ?_
      exact k_zret rfl isZ_1.1 C hW dX7_isSomeBelowZero_18 ⟨rfl, hq⟩
theorem k_X7_isSomeBelowZero_2 {o : Nat} (ho : shC o = 7) {Q : Int32 → Prop} {x1 : Int32} {h : hp} (C : kC p s m args meth c cX7_isSomeBelowZero 3 (some .boolean) RX7 wUX7_isSomeBelowZero) (hK : kK G s) {x2 : Int32} {H : Heap} {locs : List Loc} {ls : Array Slot} (hW : kW SC G h (aS SC G) s H locs) (hl : lv_has ls 3 [(0, .ref (G.2.2 o)), (1, .int x1), (2, .int x2)]) (hq : w_X7_isSomeBelowZero_2 o Q x1 h x2) : W p l e rmX7_isSomeBelowZero s m args below meth c H locs 0 0 (MQ below (va_Qi (fun r9 h9 => h9 = h ∧ Q r9) (kB SC G) (aS SC G)) args s 0 0 (aS SC G)) (F0 m 2 ls []) := by
  have key := hq (fun (q : Int32) => ∀ (H : Heap) (locs : List Loc) (ls : Array Slot), kW SC G h (aS SC G) s H locs → lv_has ls 3 [(0, .ref (G.2.2 o)), (1, .int x1), (2, .int q)] → W p l e rmX7_isSomeBelowZero s m args below meth c H locs 0 0 (MQ below (va_Qi (fun r9 h9 => h9 = h ∧ Q r9) (kB SC G) (aS SC G)) args s 0 0 (aS SC G)) (F0 m 2 ls []))
    (fun q hq H locs ls hW hl => k_X7_isSomeBelowZero_b2 ho C hK (fun x2 H locs ls hW hl hI => hI H locs ls hW hl) hW hl hq)
  exact key _ _ _ hW hl
theorem k_X7_isSomeBelowZero_0 {o : Nat} (ho : shC o = 7) {Q : Int32 → Prop} {x1 : Int32} {h : hp} (C : kC p s m args meth c cX7_isSomeBelowZero 3 (some .boolean) RX7 wUX7_isSomeBelowZero) (hK : kK G s) {H : Heap} {locs : List Loc} {ls : Array Slot} (hW : kW SC G h (aS SC G) s H locs) (hl : lv_has ls 3 [(0, .ref (G.2.2 o)), (1, .int x1)]) (hq : w_X7_isSomeBelowZero_0 o Q x1 h) : W p l e rmX7_isSomeBelowZero s m args below meth c H locs 0 0 (MQ below (va_Qi (fun r9 h9 => h9 = h ∧ Q r9) (kB SC G) (aS SC G)) args s 0 0 (aS SC G)) (F0 m 0 ls []) := by
  have hx := C.1
  have hb := C.2.1
  unfold w_X7_isSomeBelowZero_0 at hq
  refine lv_iconst (v := 0) hx hb dX7_isSomeBelowZero_0 (by decide) ?_
  refine lv_istore_n (lv' := [(2, .int 0), (0, .ref (G.2.2 o)), (1, .int x1)]) hx hb dX7_isSomeBelowZero_1 rfl hl (by decide) rfl (fun ls hl => ?_)
  exact k_X7_isSomeBelowZero_2 ho C hK hW (lv_sub hl [1, 2, 0] rfl) hq
theorem c_X7_isSomeBelowZero (l : Launch) (G : wG) {o : Nat} (ho : shC o = 7) (h : hp) (x1 : Int32) (Q : Int32 → Prop) (hq : w_X7_isSomeBelowZero o h x1 Q) : ctI l SC G yX7_isSomeBelowZero wUX7_isSomeBelowZero rmX7_isSomeBelowZero h [.ref (G.2.2 o), .int x1] (fun r9 h9 => h9 = h ∧ Q r9) := by
  refine k_start (cc := cX7_isSomeBelowZero) (maxL := 3) (rt := (some .boolean)) (own := RX7) (by decide +kernel) rfl rfl (Nat.le_of_ble_eq_true rfl) ?_
  intro p e s m below meth c ls C hK hW hl
  exact k_X7_isSomeBelowZero_0 ho C hK hW hl hq
theorem k_X9_clear_0 {o : Nat} (ho : shC o = 9) {Q : hp → Prop} {h : hp} (C : kC p s m args meth c cX9_clear 1 none RX9 wUX9_clear) (hK : kK G s) {H : Heap} {locs : List Loc} {ls : Array Slot} (hW : kW SC G h (aS SC G) s H locs) (hl : lv_has ls 1 [(0, .ref (G.2.2 o))]) (hq : w_X9_clear_0 o Q h) : W p l e rmX9_clear s m args below meth c H locs 0 0 (MQ below (va_Qv Q (kB SC G) (aS SC G)) args s 0 0 (aS SC G)) (F0 m 0 ls []) := by
  have hx := C.1
  have hb := C.2.1
  unfold w_X9_clear_0 at hq
  refine lv_aload_n hx hb dX9_clear_0 rfl (lv_at hl 0 rfl) ?_
  refine lv_iconst (v := 0) hx hb dX9_clear_1 (by decide) ?_
  refine pt9_0 C hK hW ho (List.mem_cons_of_mem _ mw209) (fun _ h9 => List.mem_cons_of_mem _ (inU_wsX90 _ h9)) dX9_clear_2 (fun h1 H locs eh1 hW => ?_)
  have hq := hq h1 eh1
  exact k_vret rfl C hW dX9_clear_5 hq
theorem c_X9_clear (l : Launch) (G : wG) {o : Nat} (ho : shC o = 9) (h : hp) (Q : hp → Prop) (hq : w_X9_clear o h Q) : ctV l SC G yX9_clear wUX9_clear rmX9_clear h [.ref (G.2.2 o)] Q := by
  refine k_start (cc := cX9_clear) (maxL := 1) (rt := none) (own := RX9) (by decide +kernel) rfl rfl (Nat.le_of_ble_eq_true rfl) ?_
  intro p e s m below meth c ls C hK hW hl
  exact k_X9_clear_0 ho C hK hW hl hq
theorem k_X9_isFull_0 {o : Nat} (ho : shC o = 9) {Q : Int32 → Prop} {h : hp} (C : kC p s m args meth c cX9_isFull 1 (some .boolean) RX9 wUX9_isFull) (hK : kK G s) {H : Heap} {locs : List Loc} {ls : Array Slot} (hW : kW SC G h (aS SC G) s H locs) (hl : lv_has ls 1 [(0, .ref (G.2.2 o))]) (hq : w_X9_isFull_0 o Q h) : W p l e rmX9_isFull s m args below meth c H locs 0 0 (MQ below (va_Qi (fun r9 h9 => h9 = h ∧ Q r9) (kB SC G) (aS SC G)) args s 0 0 (aS SC G)) (F0 m 0 ls []) := by
  have hx := C.1
  have hb := C.2.1
  unfold w_X9_isFull_0 at hq
  refine lv_aload_n hx hb dX9_isFull_0 rfl (lv_at hl 0 rfl) ?_
  refine gt9_0 C hK hW ho (List.mem_cons_of_mem _ mw209) (fun _ h9 => List.mem_cons_of_mem _ (inU_wsX90 _ h9)) dX9_isFull_1 ?_
  refine lv_bipush (v := 20) hx hb dX9_isFull_4 (by decide) ?_
  refine lv_icmp_lt (tgt := 13) hx hb dX9_isFull_6 (by decide) (fun c1 => ?_) (fun c1 => ?_)
  · have hq := hq.1 c1
    refine lv_iconst (v := 0) hx hb dX9_isFull_13 (by decide) ?_
    exact k_zret rfl isZ_0.1 C hW dX9_isFull_14 ⟨rfl, hq⟩
  · have hq := hq.2 c1
    refine lv_iconst (v := 1) hx hb dX9_isFull_9 (by decide) ?_
    refine lv_goto (tgt := 14) hx hb dX9_isFull_10 (by decide) ?_
    exact k_zret rfl isZ_1.1 C hW dX9_isFull_14 ⟨rfl, hq⟩
theorem c_X9_isFull (l : Launch) (G : wG) {o : Nat} (ho : shC o = 9) (h : hp) (Q : Int32 → Prop) (hq : w_X9_isFull o h Q) : ctI l SC G yX9_isFull wUX9_isFull rmX9_isFull h [.ref (G.2.2 o)] (fun r9 h9 => h9 = h ∧ Q r9) := by
  refine k_start (cc := cX9_isFull) (maxL := 1) (rt := (some .boolean)) (own := RX9) (by decide +kernel) rfl rfl (Nat.le_of_ble_eq_true rfl) ?_
  intro p e s m below meth c ls C hK hW hl
  exact k_X9_isFull_0 ho C hK hW hl hq
theorem k_X9_add_0 {o : Nat} (ho : shC o = 9) {Q : hp → Prop} {x1 : Int32} {x2 : Int64} {h : hp} (C : kC p s m args meth c cX9_add 4 none RX9 wUX9_add) (hK : kK G s) {H : Heap} {locs : List Loc} {ls : Array Slot} (hW : kW SC G h (aS SC G) s H locs) (hl : lv_has ls 4 [(0, .ref (G.2.2 o)), (1, .int x1), (2, .long x2)]) (hq : w_X9_add_0 o Q x1 x2 h) : W p l e rmX9_add s m args below meth c H locs 0 0 (MQ below (va_Qv Q (kB SC G) (aS SC G)) args s 0 0 (aS SC G)) (F0 m 0 ls []) := by
  have hx := C.1
  have hb := C.2.1
  unfold w_X9_add_0 at hq
  refine lv_aload_n hx hb dX9_add_0 rfl (lv_at hl 0 rfl) ?_
  refine gt9_0 C hK hW ho (List.mem_cons_of_mem _ mw209) (fun _ h9 => List.mem_cons_of_mem _ (inU_wsX90 _ h9)) dX9_add_1 ?_
  refine lv_bipush (v := 20) hx hb dX9_add_4 (by decide) ?_
  refine lv_icmp_ge (tgt := 39) hx hb dX9_add_6 (by decide) (fun c1 => ?_) (fun c1 => ?_)
  · have hq := hq.1 c1
    exact k_vret rfl C hW dX9_add_39 hq
  · have hq := hq.2 c1
    refine lv_aload_n hx hb dX9_add_9 rfl (lv_at hl 0 rfl) ?_
    refine gt9_1 C hK hW ho (List.mem_cons_of_mem _ mw210) (fun _ h9 => List.mem_cons_of_mem _ (inU_wsX90 _ h9)) dX9_add_10 ?_
    refine lv_aload_n hx hb dX9_add_13 rfl (lv_at hl 0 rfl) ?_
    refine gt9_0 C hK hW ho (List.mem_cons_of_mem _ mw209) (fun _ h9 => List.mem_cons_of_mem _ (inU_wsX90 _ h9)) dX9_add_14 ?_
    refine lv_iload_n hx hb dX9_add_17 rfl (lv_at hl 1 rfl) ?_
    refine k_iast okC C hK hW (shC_lt (sl9_1 ho).1 (by decide)) (fun g9 => ceC_14 (sl9_1 ho).1 (sl9_1 ho).2) hq.1 dX9_add_18 (fun H locs hW => ?_)
    have hq := hq.2
    obtain ⟨h2, eh2⟩ : ∃ z : hp, z = sI h (o + 1) (ix (gI h o 0)) x1 := ⟨_, rfl⟩
    rw [← eh2] at hW
    have hq := hq h2 eh2
    refine lv_aload_n hx hb dX9_add_19 rfl (lv_at hl 0 rfl) ?_
    refine gt9_2 C hK hW ho (List.mem_cons_of_mem _ mw211) (fun _ h9 => List.mem_cons_of_mem _ (inU_wsX90 _ h9)) dX9_add_20 ?_
    refine lv_aload_n hx hb dX9_add_23 rfl (lv_at hl 0 rfl) ?_
    refine gt9_0 C hK hW ho (List.mem_cons_of_mem _ mw209) (fun _ h9 => List.mem_cons_of_mem _ (inU_wsX90 _ h9)) dX9_add_24 ?_
    refine lv_lload_n hx hb dX9_add_27 rfl (lv_at hl 2 rfl) ?_
    refine k_last okC C hK hW (shC_lt (sl9_2 ho).1 (by decide)) (fun g9 => ceC_15 (sl9_2 ho).1 (sl9_2 ho).2) hq.1 dX9_add_28 (fun H locs hW => ?_)
    have hq := hq.2
    obtain ⟨h3, eh3⟩ : ∃ z : hp, z = sL h2 (o + 2) (ix (gI h2 o 0)) x2 := ⟨_, rfl⟩
    rw [← eh3] at hW
    have hq := hq h3 eh3
    refine lv_aload_n hx hb dX9_add_29 rfl (lv_at hl 0 rfl) ?_
    refine lv_dup hx hb dX9_add_30 rfl ?_
    refine gt9_0 C hK hW ho (List.mem_cons_of_mem _ mw209) (fun _ h9 => List.mem_cons_of_mem _ (inU_wsX90 _ h9)) dX9_add_31 ?_
    refine lv_iconst (v := 1) hx hb dX9_add_34 (by decide) ?_
    refine lv_iadd hx hb dX9_add_35 ?_
    refine pt9_0 C hK hW ho (List.mem_cons_of_mem _ mw209) (fun _ h9 => List.mem_cons_of_mem _ (inU_wsX90 _ h9)) dX9_add_36 (fun h4 H locs eh4 hW => ?_)
    have hq := hq h4 eh4
    exact k_vret rfl C hW dX9_add_39 hq
theorem c_X9_add (l : Launch) (G : wG) {o : Nat} (ho : shC o = 9) (h : hp) (x1 : Int32) (x2 : Int64) (Q : hp → Prop) (hq : w_X9_add o h x1 x2 Q) : ctV l SC G yX9_add wUX9_add rmX9_add h [.ref (G.2.2 o), .int x1, .long x2] Q := by
  refine k_start (cc := cX9_add) (maxL := 4) (rt := none) (own := RX9) (by decide +kernel) rfl rfl (Nat.le_of_ble_eq_true rfl) ?_
  intro p e s m below meth c ls C hK hW hl
  exact k_X9_add_0 ho C hK hW hl hq
theorem k_X9_copy_0 {o : Nat} (ho : shC o = 9) {o1 : Nat} (ho1 : shC o1 = 9) {Q : hp → Prop} {h : hp} (C : kC p s m args meth c cX9_copy 2 none RX9 wUX9_copy) (hK : kK G s) {H : Heap} {locs : List Loc} {ls : Array Slot} (hW : kW SC G h (aS SC G) s H locs) (hl : lv_has ls 2 [(0, .ref (G.2.2 o)), (1, .ref (G.2.2 o1))]) (hq : w_X9_copy_0 o o1 Q h) : W p l e rmX9_copy s m args below meth c H locs 0 0 (MQ below (va_Qv Q (kB SC G) (aS SC G)) args s 0 0 (aS SC G)) (F0 m 0 ls []) := by
  have hx := C.1
  have hb := C.2.1
  unfold w_X9_copy_0 at hq
  refine lv_aload_n hx hb dX9_copy_0 rfl (lv_at hl 0 rfl) ?_
  refine lv_aload_n hx hb dX9_copy_1 rfl (lv_at hl 1 rfl) ?_
  refine gt9_0 C hK hW ho1 (List.mem_cons_of_mem _ mw209) (fun _ h9 => List.mem_cons_of_mem _ (inU_wsX90 _ h9)) dX9_copy_2 ?_
  refine pt9_0 C hK hW ho (List.mem_cons_of_mem _ mw209) (fun _ h9 => List.mem_cons_of_mem _ (inU_wsX90 _ h9)) dX9_copy_5 (fun h1 H locs eh1 hW => ?_)
  have hq := hq h1 eh1
  refine lv_aload_n hx hb dX9_copy_8 rfl (lv_at hl 1 rfl) ?_
  refine gt9_1 C hK hW ho1 (List.mem_cons_of_mem _ mw210) (fun _ h9 => List.mem_cons_of_mem _ (inU_wsX90 _ h9)) dX9_copy_9 ?_
  refine lv_iconst (v := 0) hx hb dX9_copy_12 (by decide) ?_
  refine lv_aload_n hx hb dX9_copy_13 rfl (lv_at hl 0 rfl) ?_
  refine gt9_1 C hK hW ho (List.mem_cons_of_mem _ mw210) (fun _ h9 => List.mem_cons_of_mem _ (inU_wsX90 _ h9)) dX9_copy_14 ?_
  refine lv_iconst (v := 0) hx hb dX9_copy_17 (by decide) ?_
  refine lv_bipush (v := 20) hx hb dX9_copy_18 (by decide) ?_
  refine k_copyi okC C hl.1 hK hW (shC_lt (sl9_1 ho1).1 (by decide)) (shC_lt (sl9_1 ho).1 (by decide)) (ceC_14 (sl9_1 ho1).1 (sl9_1 ho1).2) (fun g9 => ceC_14 (sl9_1 ho).1 (sl9_1 ho).2) (List.mem_cons_of_mem _ mw1531) (List.mem_cons_of_mem _ mw548) (List.mem_cons_of_mem _ mw549) (List.mem_cons_of_mem _ mw550) hq.1 hq.2.1 hq.2.2.1 hq.2.2.2.1 hq.2.2.2.2.1 (Nat.le_of_ble_eq_true rfl) (Nat.le_of_ble_eq_true rfl) dX9_copy_20 (fun H locs hW => ?_)
  have hq := hq.2.2.2.2.2
  obtain ⟨h2, eh2⟩ : ∃ z : hp, z = cI h1 (o1 + 1) (ix 0) (o + 1) (ix 0) (ix 20) := ⟨_, rfl⟩
  rw [← eh2] at hW
  have hq := hq h2 eh2
  refine lv_aload_n hx hb dX9_copy_23 rfl (lv_at hl 1 rfl) ?_
  refine gt9_2 C hK hW ho1 (List.mem_cons_of_mem _ mw211) (fun _ h9 => List.mem_cons_of_mem _ (inU_wsX90 _ h9)) dX9_copy_24 ?_
  refine lv_iconst (v := 0) hx hb dX9_copy_27 (by decide) ?_
  refine lv_aload_n hx hb dX9_copy_28 rfl (lv_at hl 0 rfl) ?_
  refine gt9_2 C hK hW ho (List.mem_cons_of_mem _ mw211) (fun _ h9 => List.mem_cons_of_mem _ (inU_wsX90 _ h9)) dX9_copy_29 ?_
  refine lv_iconst (v := 0) hx hb dX9_copy_32 (by decide) ?_
  refine lv_bipush (v := 20) hx hb dX9_copy_33 (by decide) ?_
  refine k_copyl okC C hl.1 hK hW (shC_lt (sl9_2 ho1).1 (by decide)) (shC_lt (sl9_2 ho).1 (by decide)) (ceC_15 (sl9_2 ho1).1 (sl9_2 ho1).2) (fun g9 => ceC_15 (sl9_2 ho).1 (sl9_2 ho).2) (List.mem_cons_of_mem _ mw1531) (List.mem_cons_of_mem _ mw548) (List.mem_cons_of_mem _ mw549) (List.mem_cons_of_mem _ mw550) hq.1 hq.2.1 hq.2.2.1 hq.2.2.2.1 hq.2.2.2.2.1 (Nat.le_of_ble_eq_true rfl) (Nat.le_of_ble_eq_true rfl) dX9_copy_35 (fun H locs hW => ?_)
  have hq := hq.2.2.2.2.2
  obtain ⟨h3, eh3⟩ : ∃ z : hp, z = cL h2 (o1 + 2) (ix 0) (o + 2) (ix 0) (ix 20) := ⟨_, rfl⟩
  rw [← eh3] at hW
  have hq := hq h3 eh3
  exact k_vret rfl C hW dX9_copy_38 hq
theorem c_X9_copy (l : Launch) (G : wG) {o : Nat} (ho : shC o = 9) {o1 : Nat} (ho1 : shC o1 = 9) (h : hp) (Q : hp → Prop) (hq : w_X9_copy o o1 h Q) : ctV l SC G yX9_copy wUX9_copy rmX9_copy h [.ref (G.2.2 o), .ref (G.2.2 o1)] Q := by
  refine k_start (cc := cX9_copy) (maxL := 2) (rt := none) (own := RX9) (by decide +kernel) rfl rfl (Nat.le_of_ble_eq_true rfl) ?_
  intro p e s m below meth c ls C hK hW hl
  exact k_X9_copy_0 ho ho1 C hK hW hl hq
theorem k_X10_settle_b38 {Q : hp → Prop} {X22 : Int32 × Int32 × hp → Prop} {X38 : Int32 × Int32 × hp → Prop} {x4 : Int32} {x5 : Int32} (C : kC p s m args meth c cX10_settle 7 none RX10 wUX10_settle) (hK : kK G s) (hX22 : ∀ (x3 : Int32) (x4 : Int32) (h : hp) (H : Heap) (locs : List Loc) (ls : Array Slot), kW SC G h (aS SC G) s H locs → lv_has ls 7 [(0, .ref (G.2.2 64)), (3, .int x3), (4, .int x4)] → X22 (x3, x4, h) → W p l e rmX10_settle s m args below meth c H locs 0 0 (MQ below (va_Qv Q (kB SC G) (aS SC G)) args s 0 0 (aS SC G)) (F0 m 22 ls [])) (hX38 : ∀ (x3 : Int32) (x6 : Int32) (h : hp) (H : Heap) (locs : List Loc) (ls : Array Slot), kW SC G h (aS SC G) s H locs → lv_has ls 7 [(0, .ref (G.2.2 64)), (3, .int x3), (4, .int x4), (5, .int x5), (6, .int x6)] → X38 (x3, x6, h) → W p l e rmX10_settle s m args below meth c H locs 0 0 (MQ below (va_Qv Q (kB SC G) (aS SC G)) args s 0 0 (aS SC G)) (F0 m 38 ls [])) {x3 : Int32} {x6 : Int32} {h : hp} {H : Heap} {locs : List Loc} {ls : Array Slot} (hW : kW SC G h (aS SC G) s H locs) (hl : lv_has ls 7 [(0, .ref (G.2.2 64)), (3, .int x3), (4, .int x4), (5, .int x5), (6, .int x6)]) (hq : w_X10_settle_b38 Q X22 x4 x5 X38 x3 x6 h) : W p l e rmX10_settle s m args below meth c H locs 0 0 (MQ below (va_Qv Q (kB SC G) (aS SC G)) args s 0 0 (aS SC G)) (F0 m 38 ls []) := by
  have hx := C.1
  have hb := C.2.1
  unfold w_X10_settle_b38 at hq
  refine lv_iload hx hb dX10_settle_38 (lv_at hl 4 rfl) ?_
  refine lv_iload hx hb dX10_settle_40 (lv_at hl 3 rfl) ?_
  refine lv_aload_n hx hb dX10_settle_42 rfl (lv_at hl 0 rfl) ?_
  refine gt10_2 C hK hW (rfl : shC 64 = 10) (List.mem_cons_of_mem _ mw218) (fun _ h9 => List.mem_cons_of_mem _ (inU_wsX100 _ h9)) dX10_settle_43 ?_
  refine lv_iconst (v := 1) hx hb dX10_settle_46 (by decide) ?_
  refine lv_iadd hx hb dX10_settle_47 ?_
  refine lv_imul hx hb dX10_settle_48 ?_
  refine lv_icmp_ge (tgt := 88) hx hb dX10_settle_49 (by decide) (fun c6 => ?_) (fun c6 => ?_)
  · have hq := hq.1 c6
    obtain ⟨x4_7, ex4_7⟩ : ∃ y : Int32, y = x4 + 1 := ⟨_, rfl⟩
    have hq := hq x4_7 ex4_7
    refine lv_iinc (v := x4_7) (lv' := [(4, .int x4_7), (0, .ref (G.2.2 64)), (3, .int x3), (5, .int x5), (6, .int x6)]) hx hb dX10_settle_88 hl (k := 2) rfl (by rw [ex4_7]; rfl) (by decide) rfl (fun ls hl => ?_)
    refine lv_goto (tgt := 22) hx hb dX10_settle_91 (by decide) ?_
    exact hX22 _ _ _ _ _ _ hW (lv_sub hl [1, 2, 0] rfl) hq
  · have hq := hq.2 c6
    refine lv_iload hx hb dX10_settle_52 (lv_at hl 4 rfl) ?_
    refine lv_sipush (v := 10000) hx hb dX10_settle_54 (by decide) ?_
    refine lv_icmp_ge (tgt := 88) hx hb dX10_settle_57 (by decide) (fun c8 => ?_) (fun c8 => ?_)
    · have hq := hq.1 c8
      obtain ⟨x4_9, ex4_9⟩ : ∃ y : Int32, y = x4 + 1 := ⟨_, rfl⟩
      have hq := hq x4_9 ex4_9
      refine lv_iinc (v := x4_9) (lv' := [(4, .int x4_9), (0, .ref (G.2.2 64)), (3, .int x3), (5, .int x5), (6, .int x6)]) hx hb dX10_settle_88 hl (k := 2) rfl (by rw [ex4_9]; rfl) (by decide) rfl (fun ls hl => ?_)
      refine lv_goto (tgt := 22) hx hb dX10_settle_91 (by decide) ?_
      exact hX22 _ _ _ _ _ _ hW (lv_sub hl [1, 2, 0] rfl) hq
    · have hq := hq.2 c8
      refine lv_aload_n hx hb dX10_settle_60 rfl (lv_at hl 0 rfl) ?_
      refine gt10_4 C hK hW (rfl : shC 64 = 10) (List.mem_cons_of_mem _ mw220) (fun _ h9 => List.mem_cons_of_mem _ (inU_wsX100 _ h9)) dX10_settle_61 ?_
      refine lv_iload hx hb dX10_settle_64 (lv_at hl 4 rfl) ?_
      refine lv_aload_n hx hb dX10_settle_66 rfl (lv_at hl 0 rfl) ?_
      refine gt10_4 C hK hW (rfl : shC 64 = 10) (List.mem_cons_of_mem _ mw220) (fun _ h9 => List.mem_cons_of_mem _ (inU_wsX100 _ h9)) dX10_settle_67 ?_
      refine lv_iload hx hb dX10_settle_70 (lv_at hl 4 rfl) ?_
      refine lv_iload hx hb dX10_settle_72 (lv_at hl 3 rfl) ?_
      refine k_irem hx hb dX10_settle_74 hq.1 ?_
      have hq := hq.2
      refine k_iald C hK hW (shC_lt (rfl : shC 66 = 14) (by decide)) (ceC_14 (rfl : shC 66 = 14) (rfl : lnC 66 = 10000)) hq.1 dX10_settle_75 ?_
      have hq := hq.2
      refine lv_iconst (v := 1) hx hb dX10_settle_76 (by decide) ?_
      refine lv_iadd hx hb dX10_settle_77 ?_
      refine k_iast okC C hK hW (shC_lt (rfl : shC 66 = 14) (by decide)) (fun g9 => ceC_14 (rfl : shC 66 = 14) (rfl : lnC 66 = 10000)) hq.1 dX10_settle_78 (fun H locs hW => ?_)
      have hq := hq.2
      obtain ⟨h10, eh10⟩ : ∃ z : hp, z = sI h 66 (ix x6) ((gI h 66 (ix (jrem x6 x5))) + 1) := ⟨_, rfl⟩
      rw [← eh10] at hW
      have hq := hq h10 eh10
      obtain ⟨x3_11, ex3_11⟩ : ∃ y : Int32, y = x3 + 1 := ⟨_, rfl⟩
      have hq := hq x3_11 ex3_11
      refine lv_iinc (v := x3_11) (lv' := [(3, .int x3_11), (0, .ref (G.2.2 64)), (4, .int x4), (5, .int x5), (6, .int x6)]) hx hb dX10_settle_79 hl (k := 1) rfl (by rw [ex3_11]; rfl) (by decide) rfl (fun ls hl => ?_)
      obtain ⟨x6_12, ex6_12⟩ : ∃ y : Int32, y = x6 + 1 := ⟨_, rfl⟩
      have hq := hq x6_12 ex6_12
      refine lv_iinc (v := x6_12) (lv' := [(6, .int x6_12), (3, .int x3_11), (0, .ref (G.2.2 64)), (4, .int x4), (5, .int x5)]) hx hb dX10_settle_82 hl (k := 4) rfl (by rw [ex6_12]; rfl) (by decide) rfl (fun ls hl => ?_)
      refine lv_goto (tgt := 38) hx hb dX10_settle_85 (by decide) ?_
      exact hX38 _ _ _ _ _ _ hW (lv_sub hl [2, 1, 3, 4, 0] rfl) hq
theorem k_X10_settle_38 {Q : hp → Prop} {X22 : Int32 × Int32 × hp → Prop} {x4 : Int32} {x5 : Int32} (C : kC p s m args meth c cX10_settle 7 none RX10 wUX10_settle) (hK : kK G s) (hX22 : ∀ (x3 : Int32) (x4 : Int32) (h : hp) (H : Heap) (locs : List Loc) (ls : Array Slot), kW SC G h (aS SC G) s H locs → lv_has ls 7 [(0, .ref (G.2.2 64)), (3, .int x3), (4, .int x4)] → X22 (x3, x4, h) → W p l e rmX10_settle s m args below meth c H locs 0 0 (MQ below (va_Qv Q (kB SC G) (aS SC G)) args s 0 0 (aS SC G)) (F0 m 22 ls [])) {x3 : Int32} {x6 : Int32} {h : hp} {H : Heap} {locs : List Loc} {ls : Array Slot} (hW : kW SC G h (aS SC G) s H locs) (hl : lv_has ls 7 [(0, .ref (G.2.2 64)), (3, .int x3), (4, .int x4), (5, .int x5), (6, .int x6)]) (hq : w_X10_settle_38 Q X22 x4 x5 x3 x6 h) : W p l e rmX10_settle s m args below meth c H locs 0 0 (MQ below (va_Qv Q (kB SC G) (aS SC G)) args s 0 0 (aS SC G)) (F0 m 38 ls []) := by
  have key := hq (fun (q : Int32 × Int32 × hp) => ∀ (H : Heap) (locs : List Loc) (ls : Array Slot), kW SC G q.2.2 (aS SC G) s H locs → lv_has ls 7 [(0, .ref (G.2.2 64)), (3, .int q.1), (4, .int x4), (5, .int x5), (6, .int q.2.1)] → W p l e rmX10_settle s m args below meth c H locs 0 0 (MQ below (va_Qv Q (kB SC G) (aS SC G)) args s 0 0 (aS SC G)) (F0 m 38 ls []))
    (fun q hq H locs ls hW hl => k_X10_settle_b38 C hK hX22 (fun x3 x6 h H locs ls hW hl hI => hI H locs ls hW hl) hW hl hq)
  exact key _ _ _ hW hl
theorem k_X10_settle_b22 {Q : hp → Prop} {X22 : Int32 × Int32 × hp → Prop} (C : kC p s m args meth c cX10_settle 7 none RX10 wUX10_settle) (hK : kK G s) (hX22 : ∀ (x3 : Int32) (x4 : Int32) (h : hp) (H : Heap) (locs : List Loc) (ls : Array Slot), kW SC G h (aS SC G) s H locs → lv_has ls 7 [(0, .ref (G.2.2 64)), (3, .int x3), (4, .int x4)] → X22 (x3, x4, h) → W p l e rmX10_settle s m args below meth c H locs 0 0 (MQ below (va_Qv Q (kB SC G) (aS SC G)) args s 0 0 (aS SC G)) (F0 m 22 ls [])) {x3 : Int32} {x4 : Int32} {h : hp} {H : Heap} {locs : List Loc} {ls : Array Slot} (hW : kW SC G h (aS SC G) s H locs) (hl : lv_has ls 7 [(0, .ref (G.2.2 64)), (3, .int x3), (4, .int x4)]) (hq : w_X10_settle_b22 Q X22 x3 x4 h) : W p l e rmX10_settle s m args below meth c H locs 0 0 (MQ below (va_Qv Q (kB SC G) (aS SC G)) args s 0 0 (aS SC G)) (F0 m 22 ls []) := by
  have hx := C.1
  have hb := C.2.1
  unfold w_X10_settle_b22 at hq
  refine lv_iload hx hb dX10_settle_22 (lv_at hl 2 rfl) ?_
  refine lv_aload_n hx hb dX10_settle_24 rfl (lv_at hl 0 rfl) ?_
  refine gt10_0 C hK hW (rfl : shC 64 = 10) (List.mem_cons_of_mem _ mw216) (fun _ h9 => List.mem_cons_of_mem _ (inU_wsX100 _ h9)) dX10_settle_25 ?_
  refine lv_icmp_ge (tgt := 94) hx hb dX10_settle_28 (by decide) (fun c4 => ?_) (fun c4 => ?_)
  · have hq := hq.1 c4
    refine lv_aload_n hx hb dX10_settle_94 rfl (lv_at hl 0 rfl) ?_
    refine lv_iload_n hx hb dX10_settle_95 rfl (lv_at hl 1 rfl) ?_
    refine pt10_1 C hK hW (rfl : shC 64 = 10) (List.mem_cons_of_mem _ mw217) (fun _ h9 => List.mem_cons_of_mem _ (inU_wsX100 _ h9)) dX10_settle_96 (fun h5 H locs eh5 hW => ?_)
    have hq := hq h5 eh5
    exact k_vret rfl C hW dX10_settle_99 hq
  · have hq := hq.2 c4
    refine lv_iload_n hx hb dX10_settle_31 rfl (lv_at hl 1 rfl) ?_
    refine lv_istore (lv' := [(5, .int x3), (0, .ref (G.2.2 64)), (3, .int x3), (4, .int x4)]) hx hb dX10_settle_32 hl (by decide) rfl (fun ls hl => ?_)
    refine lv_iload hx hb dX10_settle_34 (lv_at hl 0 rfl) ?_
    refine lv_istore (lv' := [(6, .int x3), (5, .int x3), (0, .ref (G.2.2 64)), (3, .int x3), (4, .int x4)]) hx hb dX10_settle_36 hl (by decide) rfl (fun ls hl => ?_)
    exact k_X10_settle_38 C hK hX22 hW (lv_sub hl [2, 3, 4, 1, 0] rfl) hq
theorem k_X10_settle_22 {Q : hp → Prop} (C : kC p s m args meth c cX10_settle 7 none RX10 wUX10_settle) (hK : kK G s) {x3 : Int32} {x4 : Int32} {h : hp} {H : Heap} {locs : List Loc} {ls : Array Slot} (hW : kW SC G h (aS SC G) s H locs) (hl : lv_has ls 7 [(0, .ref (G.2.2 64)), (3, .int x3), (4, .int x4)]) (hq : w_X10_settle_22 Q x3 x4 h) : W p l e rmX10_settle s m args below meth c H locs 0 0 (MQ below (va_Qv Q (kB SC G) (aS SC G)) args s 0 0 (aS SC G)) (F0 m 22 ls []) := by
  have key := hq (fun (q : Int32 × Int32 × hp) => ∀ (H : Heap) (locs : List Loc) (ls : Array Slot), kW SC G q.2.2 (aS SC G) s H locs → lv_has ls 7 [(0, .ref (G.2.2 64)), (3, .int q.1), (4, .int q.2.1)] → W p l e rmX10_settle s m args below meth c H locs 0 0 (MQ below (va_Qv Q (kB SC G) (aS SC G)) args s 0 0 (aS SC G)) (F0 m 22 ls []))
    (fun q hq H locs ls hW hl => k_X10_settle_b22 C hK (fun x3 x4 h H locs ls hW hl hI => hI H locs ls hW hl) hW hl hq)
  exact key _ _ _ hW hl
theorem k_X10_settle_0 {Q : hp → Prop} {x1 : Int32} {x2 : Int32} {h : hp} (C : kC p s m args meth c cX10_settle 7 none RX10 wUX10_settle) (hK : kK G s) {H : Heap} {locs : List Loc} {ls : Array Slot} (hW : kW SC G h (aS SC G) s H locs) (hl : lv_has ls 7 [(0, .ref (G.2.2 64)), (1, .int x1), (2, .int x2)]) (hq : w_X10_settle_0 Q x1 x2 h) : W p l e rmX10_settle s m args below meth c H locs 0 0 (MQ below (va_Qv Q (kB SC G) (aS SC G)) args s 0 0 (aS SC G)) (F0 m 0 ls []) := by
  have hx := C.1
  have hb := C.2.1
  unfold w_X10_settle_0 at hq
  refine lv_aload_n hx hb dX10_settle_0 rfl (lv_at hl 0 rfl) ?_
  refine lv_iload_n hx hb dX10_settle_1 rfl (lv_at hl 1 rfl) ?_
  refine pt10_0 C hK hW (rfl : shC 64 = 10) (List.mem_cons_of_mem _ mw216) (fun _ h9 => List.mem_cons_of_mem _ (inU_wsX100 _ h9)) dX10_settle_2 (fun h1 H locs eh1 hW => ?_)
  have hq := hq h1 eh1
  refine lv_aload_n hx hb dX10_settle_5 rfl (lv_at hl 0 rfl) ?_
  refine lv_iload_n hx hb dX10_settle_6 rfl (lv_at hl 2 rfl) ?_
  refine pt10_2 C hK hW (rfl : shC 64 = 10) (List.mem_cons_of_mem _ mw218) (fun _ h9 => List.mem_cons_of_mem _ (inU_wsX100 _ h9)) dX10_settle_7 (fun h2 H locs eh2 hW => ?_)
  have hq := hq h2 eh2
  refine lv_iconst (v := 1) hx hb dX10_settle_10 (by decide) ?_
  refine lv_istore_n (lv' := [(3, .int 1), (0, .ref (G.2.2 64)), (1, .int x1), (2, .int x2)]) hx hb dX10_settle_11 rfl hl (by decide) rfl (fun ls hl => ?_)
  refine lv_aload_n hx hb dX10_settle_12 rfl (lv_at hl 1 rfl) ?_
  refine gt10_4 C hK hW (rfl : shC 64 = 10) (List.mem_cons_of_mem _ mw220) (fun _ h9 => List.mem_cons_of_mem _ (inU_wsX100 _ h9)) dX10_settle_13 ?_
  refine lv_iconst (v := 0) hx hb dX10_settle_16 (by decide) ?_
  refine lv_iconst (v := 0) hx hb dX10_settle_17 (by decide) ?_
  refine k_iast okC C hK hW (shC_lt (rfl : shC 66 = 14) (by decide)) (fun g9 => ceC_14 (rfl : shC 66 = 14) (rfl : lnC 66 = 10000)) hq.1 dX10_settle_18 (fun H locs hW => ?_)
  have hq := hq.2
  obtain ⟨h3, eh3⟩ : ∃ z : hp, z = sI h2 66 (ix 0) 0 := ⟨_, rfl⟩
  rw [← eh3] at hW
  have hq := hq h3 eh3
  refine lv_iconst (v := 0) hx hb dX10_settle_19 (by decide) ?_
  refine lv_istore (lv' := [(4, .int 0), (3, .int 1), (0, .ref (G.2.2 64)), (1, .int x1), (2, .int x2)]) hx hb dX10_settle_20 hl (by decide) rfl (fun ls hl => ?_)
  exact k_X10_settle_22 C hK hW (lv_sub hl [2, 1, 0] rfl) hq
theorem c_X10_settle (l : Launch) (G : wG) (h : hp) (x1 : Int32) (x2 : Int32) (Q : hp → Prop) (hq : w_X10_settle h x1 x2 Q) : ctV l SC G yX10_settle wUX10_settle rmX10_settle h [.ref (G.2.2 64), .int x1, .int x2] Q := by
  refine k_start (cc := cX10_settle) (maxL := 7) (rt := none) (own := RX10) (by decide +kernel) rfl rfl (Nat.le_of_ble_eq_true rfl) ?_
  intro p e s m below meth c ls C hK hW hl
  exact k_X10_settle_0 C hK hW hl hq
theorem k_X10_howManyComeTo_b12 {Q : Int32 → hp → Prop} {X12 : Int32 × Int32 → Prop} {x2 : Int64} {h : hp} (C : kC p s m args meth c cX10_howManyComeTo 6 (some .int) RX10 wUX10_howManyComeTo) (hK : kK G s) (hX12 : ∀ (x4 : Int32) (x5 : Int32) (H : Heap) (locs : List Loc) (ls : Array Slot), kW SC G h (aS SC G) s H locs → lv_has ls 6 [(0, .ref (G.2.2 64)), (2, .long x2), (4, .int x4), (5, .int x5)] → X12 (x4, x5) → W p l e rmX10_howManyComeTo s m args below meth c H locs 0 0 (MQ below (va_Qi Q (kB SC G) (aS SC G)) args s 0 0 (aS SC G)) (F0 m 12 ls [])) {x4 : Int32} {x5 : Int32} {H : Heap} {locs : List Loc} {ls : Array Slot} (hW : kW SC G h (aS SC G) s H locs) (hl : lv_has ls 6 [(0, .ref (G.2.2 64)), (2, .long x2), (4, .int x4), (5, .int x5)]) (hq : w_X10_howManyComeTo_b12 Q x2 h X12 x4 x5) : W p l e rmX10_howManyComeTo s m args below meth c H locs 0 0 (MQ below (va_Qi Q (kB SC G) (aS SC G)) args s 0 0 (aS SC G)) (F0 m 12 ls []) := by
  have hx := C.1
  have hb := C.2.1
  unfold w_X10_howManyComeTo_b12 at hq
  refine lv_iload hx hb dX10_howManyComeTo_12 (lv_at hl 3 rfl) ?_
  refine lv_aload_n hx hb dX10_howManyComeTo_14 rfl (lv_at hl 0 rfl) ?_
  refine gt10_1 C hK hW (rfl : shC 64 = 10) (List.mem_cons_of_mem _ mw217) (fun _ h9 => List.mem_cons_of_mem _ (inU_wsX100 _ h9)) dX10_howManyComeTo_15 ?_
  refine lv_icmp_ge (tgt := 42) hx hb dX10_howManyComeTo_18 (by decide) (fun c2 => ?_) (fun c2 => ?_)
  · have hq := hq.1 c2
    refine lv_iload hx hb dX10_howManyComeTo_42 (lv_at hl 2 rfl) ?_
    exact k_iret rfl C hW dX10_howManyComeTo_44 hq
  · have hq := hq.2 c2
    refine lv_aload_n hx hb dX10_howManyComeTo_21 rfl (lv_at hl 0 rfl) ?_
    refine gt10_3 C hK hW (rfl : shC 64 = 10) (List.mem_cons_of_mem _ mw219) (fun _ h9 => List.mem_cons_of_mem _ (inU_wsX100 _ h9)) dX10_howManyComeTo_22 ?_
    refine lv_iload hx hb dX10_howManyComeTo_25 (lv_at hl 3 rfl) ?_
    refine k_lald C hK hW (shC_lt (rfl : shC 65 = 15) (by decide)) (ceC_15 (rfl : shC 65 = 15) (rfl : lnC 65 = 10000)) hq.1 dX10_howManyComeTo_27 ?_
    have hq := hq.2
    refine lv_lload_n hx hb dX10_howManyComeTo_28 rfl (lv_at hl 1 rfl) ?_
    refine W.lcmp hx hb dX10_howManyComeTo_29 ?_
    refine lv_if_ne (tgt := 36) hx hb dX10_howManyComeTo_30 (by decide) (fun c3 => ?_) (fun c3 => ?_)
    · have hq := hq.1 (fun z => c3 ((lg_cmp_eq _ _).mpr z))
      obtain ⟨x5_4, ex5_4⟩ : ∃ y : Int32, y = x5 + 1 := ⟨_, rfl⟩
      have hq := hq x5_4 ex5_4
      refine lv_iinc (v := x5_4) (lv' := [(5, .int x5_4), (0, .ref (G.2.2 64)), (2, .long x2), (4, .int x4)]) hx hb dX10_howManyComeTo_36 hl (k := 3) rfl (by rw [ex5_4]; rfl) (by decide) rfl (fun ls hl => ?_)
      refine lv_goto (tgt := 12) hx hb dX10_howManyComeTo_39 (by decide) ?_
      exact hX12 _ _ _ _ _ hW (lv_sub hl [1, 2, 3, 0] rfl) hq
    · have hq := hq.2 ((lg_cmp_eq _ _).mp c3)
      obtain ⟨x4_5, ex4_5⟩ : ∃ y : Int32, y = x4 + 1 := ⟨_, rfl⟩
      have hq := hq x4_5 ex4_5
      refine lv_iinc (v := x4_5) (lv' := [(4, .int x4_5), (0, .ref (G.2.2 64)), (2, .long x2), (5, .int x5)]) hx hb dX10_howManyComeTo_33 hl (k := 2) rfl (by rw [ex4_5]; rfl) (by decide) rfl (fun ls hl => ?_)
      obtain ⟨x5_6, ex5_6⟩ : ∃ y : Int32, y = x5 + 1 := ⟨_, rfl⟩
      have hq := hq x5_6 ex5_6
      refine lv_iinc (v := x5_6) (lv' := [(5, .int x5_6), (4, .int x4_5), (0, .ref (G.2.2 64)), (2, .long x2)]) hx hb dX10_howManyComeTo_36 hl (k := 3) rfl (by rw [ex5_6]; rfl) (by decide) rfl (fun ls hl => ?_)
      refine lv_goto (tgt := 12) hx hb dX10_howManyComeTo_39 (by decide) ?_
      exact hX12 _ _ _ _ _ hW (lv_sub hl [2, 3, 1, 0] rfl) hq
theorem k_X10_howManyComeTo_12 {Q : Int32 → hp → Prop} {x2 : Int64} {h : hp} (C : kC p s m args meth c cX10_howManyComeTo 6 (some .int) RX10 wUX10_howManyComeTo) (hK : kK G s) {x4 : Int32} {x5 : Int32} {H : Heap} {locs : List Loc} {ls : Array Slot} (hW : kW SC G h (aS SC G) s H locs) (hl : lv_has ls 6 [(0, .ref (G.2.2 64)), (2, .long x2), (4, .int x4), (5, .int x5)]) (hq : w_X10_howManyComeTo_12 Q x2 h x4 x5) : W p l e rmX10_howManyComeTo s m args below meth c H locs 0 0 (MQ below (va_Qi Q (kB SC G) (aS SC G)) args s 0 0 (aS SC G)) (F0 m 12 ls []) := by
  have key := hq (fun (q : Int32 × Int32) => ∀ (H : Heap) (locs : List Loc) (ls : Array Slot), kW SC G h (aS SC G) s H locs → lv_has ls 6 [(0, .ref (G.2.2 64)), (2, .long x2), (4, .int q.1), (5, .int q.2)] → W p l e rmX10_howManyComeTo s m args below meth c H locs 0 0 (MQ below (va_Qi Q (kB SC G) (aS SC G)) args s 0 0 (aS SC G)) (F0 m 12 ls []))
    (fun q hq H locs ls hW hl => k_X10_howManyComeTo_b12 C hK (fun x4 x5 H locs ls hW hl hI => hI H locs ls hW hl) hW hl hq)
  exact key _ _ _ hW hl
theorem k_X10_howManyComeTo_0 {Q : Int32 → hp → Prop} {x1 : Int32} {x2 : Int64} {h : hp} (C : kC p s m args meth c cX10_howManyComeTo 6 (some .int) RX10 wUX10_howManyComeTo) (hK : kK G s) {H : Heap} {locs : List Loc} {ls : Array Slot} (hW : kW SC G h (aS SC G) s H locs) (hl : lv_has ls 6 [(0, .ref (G.2.2 64)), (1, .int x1), (2, .long x2)]) (hq : w_X10_howManyComeTo_0 Q x1 x2 h) : W p l e rmX10_howManyComeTo s m args below meth c H locs 0 0 (MQ below (va_Qi Q (kB SC G) (aS SC G)) args s 0 0 (aS SC G)) (F0 m 0 ls []) := by
  have hx := C.1
  have hb := C.2.1
  unfold w_X10_howManyComeTo_0 at hq
  refine lv_aload_n hx hb dX10_howManyComeTo_0 rfl (lv_at hl 0 rfl) ?_
  refine lv_iload_n hx hb dX10_howManyComeTo_1 rfl (lv_at hl 1 rfl) ?_
  refine lv_i2l (v := x1.toInt64) hx hb dX10_howManyComeTo_2 rfl ?_
  refine k_cv hW (va_runV (As := [.long (x1.toInt64)]) (rest := []) (k_fix C) (c_X10_comeBy l G h (x1.toInt64) _ hq) (cwV 1 C.2.2.2.2.2.1 (gU_V mw854 mw855 mw856 mw34 mw857) rfl rfl rfl (by decide +kernel) ⟨Nat.le_of_ble_eq_true rfl, Nat.le_of_ble_eq_true rfl⟩) (k_preV hK hW (shC_lt (rfl : shC 64 = 10) (by decide)) (ceC_10 (rfl : shC 64 = 10)) (q := (RX10, TX10, 7)) rfl) rfl rfl hl.1 rfl (lv_room (Nat.le_of_ble_eq_true rfl)) dX10_howManyComeTo_3 ⟨Nat.le_refl 0, Nat.le_refl 0⟩) (fun h1 H locs hq hW => ?_)
  refine lv_iconst (v := 0) hx hb dX10_howManyComeTo_6 (by decide) ?_
  refine lv_istore (lv' := [(4, .int 0), (0, .ref (G.2.2 64)), (1, .int x1), (2, .long x2)]) hx hb dX10_howManyComeTo_7 hl (by decide) rfl (fun ls hl => ?_)
  refine lv_iconst (v := 0) hx hb dX10_howManyComeTo_9 (by decide) ?_
  refine lv_istore (lv' := [(5, .int 0), (4, .int 0), (0, .ref (G.2.2 64)), (1, .int x1), (2, .long x2)]) hx hb dX10_howManyComeTo_10 hl (by decide) rfl (fun ls hl => ?_)
  exact k_X10_howManyComeTo_12 C hK hW (lv_sub hl [2, 4, 1, 0] rfl) hq
theorem c_X10_howManyComeTo (l : Launch) (G : wG) (h : hp) (x1 : Int32) (x2 : Int64) (Q : Int32 → hp → Prop) (hq : w_X10_howManyComeTo h x1 x2 Q) : ctI l SC G yX10_howManyComeTo wUX10_howManyComeTo rmX10_howManyComeTo h [.ref (G.2.2 64), .int x1, .long x2] Q := by
  refine k_start (cc := cX10_howManyComeTo) (maxL := 6) (rt := (some .int)) (own := RX10) (by decide +kernel) rfl rfl (Nat.le_of_ble_eq_true rfl) ?_
  intro p e s m below meth c ls C hK hW hl
  exact k_X10_howManyComeTo_0 C hK hW hl hq
theorem k_X10_clashing_b19 {Q : Int32 → hp → Prop} {X19 : Int32 × hp → Prop} {x2 : Int32} (C : kC p s m args meth c cX10_clashing 5 (some .int) RX10 wUX10_clashing) (hK : kK G s) (hX19 : ∀ (x3 : Int32) (h : hp) (H : Heap) (locs : List Loc) (ls : Array Slot), kW SC G h (aS SC G) s H locs → lv_has ls 5 [(0, .ref (G.2.2 64)), (2, .int x2), (3, .int x3)] → X19 (x3, h) → W p l e rmX10_clashing s m args below meth c H locs 0 0 (MQ below (va_Qi Q (kB SC G) (aS SC G)) args s 0 0 (aS SC G)) (F0 m 19 ls [])) {x3 : Int32} {h : hp} {H : Heap} {locs : List Loc} {ls : Array Slot} (hW : kW SC G h (aS SC G) s H locs) (hl : lv_has ls 5 [(0, .ref (G.2.2 64)), (2, .int x2), (3, .int x3)]) (hq : w_X10_clashing_b19 Q x2 X19 x3 h) : W p l e rmX10_clashing s m args below meth c H locs 0 0 (MQ below (va_Qi Q (kB SC G) (aS SC G)) args s 0 0 (aS SC G)) (F0 m 19 ls []) := by
  have hx := C.1
  have hb := C.2.1
  unfold w_X10_clashing_b19 at hq
  refine lv_iload_n hx hb dX10_clashing_19 rfl (lv_at hl 2 rfl) ?_
  refine lv_aload_n hx hb dX10_clashing_20 rfl (lv_at hl 0 rfl) ?_
  refine gt10_1 C hK hW (rfl : shC 64 = 10) (List.mem_cons_of_mem _ mw217) (fun _ h9 => List.mem_cons_of_mem _ (inU_wsX100 _ h9)) dX10_clashing_21 ?_
  refine lv_icmp_ge (tgt := 66) hx hb dX10_clashing_24 (by decide) (fun c3 => ?_) (fun c3 => ?_)
  · have hq := hq.1 c3
    refine lv_bipush (v := (-2)) hx hb dX10_clashing_66 (by decide) ?_
    exact k_iret rfl C hW dX10_clashing_68 hq
  · have hq := hq.2 c3
    refine lv_aload_n hx hb dX10_clashing_27 rfl (lv_at hl 0 rfl) ?_
    refine gt10_6 C hK hW (rfl : shC 64 = 10) (List.mem_cons_of_mem _ mw225) (fun _ h9 => List.mem_cons_of_mem _ (inU_wsX100 _ h9)) dX10_clashing_28 ?_
    refine lv_aload_n hx hb dX10_clashing_31 rfl (lv_at hl 0 rfl) ?_
    refine gt10_3 C hK hW (rfl : shC 64 = 10) (List.mem_cons_of_mem _ mw219) (fun _ h9 => List.mem_cons_of_mem _ (inU_wsX100 _ h9)) dX10_clashing_32 ?_
    refine lv_iload_n hx hb dX10_clashing_35 rfl (lv_at hl 2 rfl) ?_
    refine k_lald C hK hW (shC_lt (rfl : shC 65 = 15) (by decide)) (ceC_15 (rfl : shC 65 = 15) (rfl : lnC 65 = 10000)) hq.1 dX10_clashing_36 ?_
    have hq := hq.2
    refine lv_iload_n hx hb dX10_clashing_37 rfl (lv_at hl 2 rfl) ?_
    refine k_ci hW (va_runV (As := [.long (gL h 65 (ix x3)), .int x3]) (rest := []) (k_fix C) (c_X4_leaderOf l G h (gL h 65 (ix x3)) x3 _ hq) (cwV 2 C.2.2.2.2.2.1 (gU_V mw869 mw870 mw871 mw224 mw872) rfl rfl rfl (by decide +kernel) ⟨Nat.le_of_ble_eq_true rfl, Nat.le_of_ble_eq_true rfl⟩) (k_preV hK hW (shC_lt (rfl : shC 68 = 4) (by decide)) (ceC_4 (rfl : shC 68 = 4)) (q := (RX4, TX4, 3)) rfl) rfl rfl hl.1 rfl (lv_room (Nat.le_of_ble_eq_true rfl)) dX10_clashing_38 ⟨Nat.le_refl 0, Nat.le_refl 0⟩) (fun r5 h4 H locs hq hW => ?_)
    refine lv_istore (lv' := [(4, .int r5), (0, .ref (G.2.2 64)), (2, .int x2), (3, .int x3)]) hx hb dX10_clashing_41 hl (by decide) rfl (fun ls hl => ?_)
    refine lv_iload hx hb dX10_clashing_43 (lv_at hl 0 rfl) ?_
    refine lv_iload_n hx hb dX10_clashing_45 rfl (lv_at hl 3 rfl) ?_
    refine lv_icmp_eq (tgt := 60) hx hb dX10_clashing_46 (by decide) (fun c6 => ?_) (fun c6 => ?_)
    · have hq := hq.1 c6
      obtain ⟨x3_7, ex3_7⟩ : ∃ y : Int32, y = x3 + 1 := ⟨_, rfl⟩
      have hq := hq x3_7 ex3_7
      refine lv_iinc (v := x3_7) (lv' := [(3, .int x3_7), (4, .int r5), (0, .ref (G.2.2 64)), (2, .int x2)]) hx hb dX10_clashing_60 hl (k := 3) rfl (by rw [ex3_7]; rfl) (by decide) rfl (fun ls hl => ?_)
      refine lv_goto (tgt := 19) hx hb dX10_clashing_63 (by decide) ?_
      exact hX19 _ _ _ _ _ hW (lv_sub hl [2, 3, 0] rfl) hq
    · have hq := hq.2 c6
      refine lv_iload_n hx hb dX10_clashing_49 rfl (lv_at hl 2 rfl) ?_
      refine lv_if_eq (tgt := 57) hx hb dX10_clashing_50 (by decide) (fun c8 => ?_) (fun c8 => ?_)
      · have hq := hq.1 c8
        refine lv_iload hx hb dX10_clashing_57 (lv_at hl 0 rfl) ?_
        exact k_iret rfl C hW dX10_clashing_59 hq
      · have hq := hq.2 c8
        refine lv_iload_n hx hb dX10_clashing_53 rfl (lv_at hl 3 rfl) ?_
        refine lv_goto (tgt := 59) hx hb dX10_clashing_54 (by decide) ?_
        exact k_iret rfl C hW dX10_clashing_59 hq
theorem k_X10_clashing_19 {Q : Int32 → hp → Prop} {x2 : Int32} (C : kC p s m args meth c cX10_clashing 5 (some .int) RX10 wUX10_clashing) (hK : kK G s) {x3 : Int32} {h : hp} {H : Heap} {locs : List Loc} {ls : Array Slot} (hW : kW SC G h (aS SC G) s H locs) (hl : lv_has ls 5 [(0, .ref (G.2.2 64)), (2, .int x2), (3, .int x3)]) (hq : w_X10_clashing_19 Q x2 x3 h) : W p l e rmX10_clashing s m args below meth c H locs 0 0 (MQ below (va_Qi Q (kB SC G) (aS SC G)) args s 0 0 (aS SC G)) (F0 m 19 ls []) := by
  have key := hq (fun (q : Int32 × hp) => ∀ (H : Heap) (locs : List Loc) (ls : Array Slot), kW SC G q.2 (aS SC G) s H locs → lv_has ls 5 [(0, .ref (G.2.2 64)), (2, .int x2), (3, .int q.1)] → W p l e rmX10_clashing s m args below meth c H locs 0 0 (MQ below (va_Qi Q (kB SC G) (aS SC G)) args s 0 0 (aS SC G)) (F0 m 19 ls []))
    (fun q hq H locs ls hW hl => k_X10_clashing_b19 C hK (fun x3 h H locs ls hW hl hI => hI H locs ls hW hl) hW hl hq)
  exact key _ _ _ hW hl
theorem k_X10_clashing_0 {Q : Int32 → hp → Prop} {x1 : Int32} {x2 : Int32} {h : hp} (C : kC p s m args meth c cX10_clashing 5 (some .int) RX10 wUX10_clashing) (hK : kK G s) {H : Heap} {locs : List Loc} {ls : Array Slot} (hW : kW SC G h (aS SC G) s H locs) (hl : lv_has ls 5 [(0, .ref (G.2.2 64)), (1, .int x1), (2, .int x2)]) (hq : w_X10_clashing_0 Q x1 x2 h) : W p l e rmX10_clashing s m args below meth c H locs 0 0 (MQ below (va_Qi Q (kB SC G) (aS SC G)) args s 0 0 (aS SC G)) (F0 m 0 ls []) := by
  have hx := C.1
  have hb := C.2.1
  unfold w_X10_clashing_0 at hq
  refine lv_aload_n hx hb dX10_clashing_0 rfl (lv_at hl 0 rfl) ?_
  refine lv_iload_n hx hb dX10_clashing_1 rfl (lv_at hl 1 rfl) ?_
  refine lv_i2l (v := x1.toInt64) hx hb dX10_clashing_2 rfl ?_
  refine k_cv hW (va_runV (As := [.long (x1.toInt64)]) (rest := []) (k_fix C) (c_X10_comeBy l G h (x1.toInt64) _ hq) (cwV 1 C.2.2.2.2.2.1 (gU_V mw854 mw855 mw856 mw34 mw857) rfl rfl rfl (by decide +kernel) ⟨Nat.le_of_ble_eq_true rfl, Nat.le_of_ble_eq_true rfl⟩) (k_preV hK hW (shC_lt (rfl : shC 64 = 10) (by decide)) (ceC_10 (rfl : shC 64 = 10)) (q := (RX10, TX10, 7)) rfl) rfl rfl hl.1 rfl (lv_room (Nat.le_of_ble_eq_true rfl)) dX10_clashing_3 ⟨Nat.le_refl 0, Nat.le_refl 0⟩) (fun h1 H locs hq hW => ?_)
  refine lv_aload_n hx hb dX10_clashing_6 rfl (lv_at hl 0 rfl) ?_
  refine gt10_6 C hK hW (rfl : shC 64 = 10) (List.mem_cons_of_mem _ mw225) (fun _ h9 => List.mem_cons_of_mem _ (inU_wsX100 _ h9)) dX10_clashing_7 ?_
  refine lv_aload_n hx hb dX10_clashing_10 rfl (lv_at hl 0 rfl) ?_
  refine gt10_1 C hK hW (rfl : shC 64 = 10) (List.mem_cons_of_mem _ mw217) (fun _ h9 => List.mem_cons_of_mem _ (inU_wsX100 _ h9)) dX10_clashing_11 ?_
  refine k_cv hW (va_runV (As := [.int (gI h1 64 1)]) (rest := []) (k_fix C) (c_X4_clear l G h1 (gI h1 64 1) _ hq) (cwV 1 C.2.2.2.2.2.1 (gU_V mw858 mw859 mw860 mw224 mw861) rfl rfl rfl (by decide +kernel) ⟨Nat.le_of_ble_eq_true rfl, Nat.le_of_ble_eq_true rfl⟩) (k_preV hK hW (shC_lt (rfl : shC 68 = 4) (by decide)) (ceC_4 (rfl : shC 68 = 4)) (q := (RX4, TX4, 3)) rfl) rfl rfl hl.1 rfl (lv_room (Nat.le_of_ble_eq_true rfl)) dX10_clashing_14 ⟨Nat.le_refl 0, Nat.le_refl 0⟩) (fun h2 H locs hq hW => ?_)
  refine lv_iconst (v := 0) hx hb dX10_clashing_17 (by decide) ?_
  refine lv_istore_n (lv' := [(3, .int 0), (0, .ref (G.2.2 64)), (1, .int x1), (2, .int x2)]) hx hb dX10_clashing_18 rfl hl (by decide) rfl (fun ls hl => ?_)
  exact k_X10_clashing_19 C hK hW (lv_sub hl [1, 3, 0] rfl) hq
theorem c_X10_clashing (l : Launch) (G : wG) (h : hp) (x1 : Int32) (x2 : Int32) (Q : Int32 → hp → Prop) (hq : w_X10_clashing h x1 x2 Q) : ctI l SC G yX10_clashing wUX10_clashing rmX10_clashing h [.ref (G.2.2 64), .int x1, .int x2] Q := by
  refine k_start (cc := cX10_clashing) (maxL := 5) (rt := (some .int)) (own := RX10) (by decide +kernel) rfl rfl (Nat.le_of_ble_eq_true rfl) ?_
  intro p e s m below meth c ls C hK hW hl
  exact k_X10_clashing_0 C hK hW hl hq
theorem k_X10_partGroups_b22 {Q : Int32 → hp → Prop} {X22 : Int32 × Int32 × hp → Prop} {x2 : Int32} (C : kC p s m args meth c cX10_partGroups 5 (some .boolean) RX10 wUX10_partGroups) (hK : kK G s) (hX22 : ∀ (x3 : Int32) (x4 : Int32) (h : hp) (H : Heap) (locs : List Loc) (ls : Array Slot), kW SC G h (aS SC G) s H locs → lv_has ls 5 [(0, .ref (G.2.2 64)), (2, .int x2), (3, .int x3), (4, .int x4)] → X22 (x3, x4, h) → W p l e rmX10_partGroups s m args below meth c H locs 0 0 (MQ below (va_Qi Q (kB SC G) (aS SC G)) args s 0 0 (aS SC G)) (F0 m 22 ls [])) {x3 : Int32} {x4 : Int32} {h : hp} {H : Heap} {locs : List Loc} {ls : Array Slot} (hW : kW SC G h (aS SC G) s H locs) (hl : lv_has ls 5 [(0, .ref (G.2.2 64)), (2, .int x2), (3, .int x3), (4, .int x4)]) (hq : w_X10_partGroups_b22 Q x2 X22 x3 x4 h) : W p l e rmX10_partGroups s m args below meth c H locs 0 0 (MQ below (va_Qi Q (kB SC G) (aS SC G)) args s 0 0 (aS SC G)) (F0 m 22 ls []) := by
  have hx := C.1
  have hb := C.2.1
  unfold w_X10_partGroups_b22 at hq
  refine lv_iload hx hb dX10_partGroups_22 (lv_at hl 3 rfl) ?_
  refine lv_aload_n hx hb dX10_partGroups_24 rfl (lv_at hl 0 rfl) ?_
  refine gt10_1 C hK hW (rfl : shC 64 = 10) (List.mem_cons_of_mem _ mw217) (fun _ h9 => List.mem_cons_of_mem _ (inU_wsX100 _ h9)) dX10_partGroups_25 ?_
  refine lv_icmp_ge (tgt := 106) hx hb dX10_partGroups_28 (by decide) (fun c3 => ?_) (fun c3 => ?_)
  · have hq := hq.1 c3
    refine lv_iload_n hx hb dX10_partGroups_106 rfl (lv_at hl 2 rfl) ?_
    exact k_zret rfl hq.1.1 C hW dX10_partGroups_107 hq.2
  · have hq := hq.2 c3
    refine lv_aload_n hx hb dX10_partGroups_31 rfl (lv_at hl 0 rfl) ?_
    refine gt10_4 C hK hW (rfl : shC 64 = 10) (List.mem_cons_of_mem _ mw220) (fun _ h9 => List.mem_cons_of_mem _ (inU_wsX100 _ h9)) dX10_partGroups_32 ?_
    refine lv_iload hx hb dX10_partGroups_35 (lv_at hl 3 rfl) ?_
    refine k_iald C hK hW (shC_lt (rfl : shC 66 = 14) (by decide)) (ceC_14 (rfl : shC 66 = 14) (rfl : lnC 66 = 10000)) hq.1 dX10_partGroups_37 ?_
    have hq := hq.2
    refine lv_iload_n hx hb dX10_partGroups_38 rfl (lv_at hl 1 rfl) ?_
    refine lv_icmp_gt (tgt := 100) hx hb dX10_partGroups_39 (by decide) (fun c4 => ?_) (fun c4 => ?_)
    · have hq := hq.1 c4
      obtain ⟨x4_5, ex4_5⟩ : ∃ y : Int32, y = x4 + 1 := ⟨_, rfl⟩
      have hq := hq x4_5 ex4_5
      refine lv_iinc (v := x4_5) (lv' := [(4, .int x4_5), (0, .ref (G.2.2 64)), (2, .int x2), (3, .int x3)]) hx hb dX10_partGroups_100 hl (k := 3) rfl (by rw [ex4_5]; rfl) (by decide) rfl (fun ls hl => ?_)
      refine lv_goto (tgt := 22) hx hb dX10_partGroups_103 (by decide) ?_
      exact hX22 _ _ _ _ _ _ hW (lv_sub hl [1, 2, 3, 0] rfl) hq
    · have hq := hq.2 c4
      refine lv_aload_n hx hb dX10_partGroups_42 rfl (lv_at hl 0 rfl) ?_
      refine gt10_5 C hK hW (rfl : shC 64 = 10) (List.mem_cons_of_mem _ mw221) (fun _ h9 => List.mem_cons_of_mem _ (inU_wsX100 _ h9)) dX10_partGroups_43 ?_
      refine lv_iload hx hb dX10_partGroups_46 (lv_at hl 3 rfl) ?_
      refine lv_aload_n hx hb dX10_partGroups_48 rfl (lv_at hl 0 rfl) ?_
      refine gt10_6 C hK hW (rfl : shC 64 = 10) (List.mem_cons_of_mem _ mw225) (fun _ h9 => List.mem_cons_of_mem _ (inU_wsX100 _ h9)) dX10_partGroups_49 ?_
      refine lv_aload_n hx hb dX10_partGroups_52 rfl (lv_at hl 0 rfl) ?_
      refine gt10_5 C hK hW (rfl : shC 64 = 10) (List.mem_cons_of_mem _ mw221) (fun _ h9 => List.mem_cons_of_mem _ (inU_wsX100 _ h9)) dX10_partGroups_53 ?_
      refine lv_iload hx hb dX10_partGroups_56 (lv_at hl 3 rfl) ?_
      refine k_iald C hK hW (shC_lt (rfl : shC 67 = 14) (by decide)) (ceC_14 (rfl : shC 67 = 14) (rfl : lnC 67 = 10000)) hq.1 dX10_partGroups_58 ?_
      have hq := hq.2
      refine lv_i2l (v := (gI h 67 (ix x4)).toInt64) hx hb dX10_partGroups_59 rfl ?_
      refine lv_ldc2 (v := 10000) hx hb C.2.2.2.2.1 (C.2.2.2.2.2.1 _ (List.mem_cons_of_mem _ mw1109)) dX10_partGroups_60 ?_
      refine lv_lmul hx hb dX10_partGroups_63 ?_
      refine lv_aload_n hx hb dX10_partGroups_64 rfl (lv_at hl 0 rfl) ?_
      refine gt10_3 C hK hW (rfl : shC 64 = 10) (List.mem_cons_of_mem _ mw219) (fun _ h9 => List.mem_cons_of_mem _ (inU_wsX100 _ h9)) dX10_partGroups_65 ?_
      refine lv_iload hx hb dX10_partGroups_68 (lv_at hl 3 rfl) ?_
      refine k_lald C hK hW (shC_lt (rfl : shC 65 = 15) (by decide)) (ceC_15 (rfl : shC 65 = 15) (rfl : lnC 65 = 10000)) hq.1 dX10_partGroups_70 ?_
      have hq := hq.2
      refine lv_ladd hx hb dX10_partGroups_71 ?_
      refine lv_iload hx hb dX10_partGroups_72 (lv_at hl 3 rfl) ?_
      refine k_ci hW (va_runV (As := [.long ((((gI h 67 (ix x4)).toInt64) * 10000) + (gL h 65 (ix x4))), .int x4]) (rest := [.int x4, .ref (G.2.2 67)]) (k_fix C) (c_X4_leaderOf l G h ((((gI h 67 (ix x4)).toInt64) * 10000) + (gL h 65 (ix x4))) x4 _ hq) (cwV 2 C.2.2.2.2.2.1 (gU_V mw869 mw870 mw871 mw224 mw872) rfl rfl rfl (by decide +kernel) ⟨Nat.le_of_ble_eq_true rfl, Nat.le_of_ble_eq_true rfl⟩) (k_preV hK hW (shC_lt (rfl : shC 68 = 4) (by decide)) (ceC_4 (rfl : shC 68 = 4)) (q := (RX4, TX4, 3)) rfl) rfl rfl hl.1 rfl (lv_room (Nat.le_of_ble_eq_true rfl)) dX10_partGroups_74 ⟨Nat.le_refl 0, Nat.le_refl 0⟩) (fun r7 h6 H locs hq hW => ?_)
      refine k_iast okC C hK hW (shC_lt (rfl : shC 67 = 14) (by decide)) (fun g9 => ceC_14 (rfl : shC 67 = 14) (rfl : lnC 67 = 10000)) hq.1 dX10_partGroups_77 (fun H locs hW => ?_)
      have hq := hq.2
      obtain ⟨h8, eh8⟩ : ∃ z : hp, z = sI h6 67 (ix x4) r7 := ⟨_, rfl⟩
      rw [← eh8] at hW
      have hq := hq h8 eh8
      refine lv_iload_n hx hb dX10_partGroups_78 rfl (lv_at hl 2 rfl) ?_
      refine lv_if_eq (tgt := 98) hx hb dX10_partGroups_79 (by decide) (fun c9 => ?_) (fun c9 => ?_)
      · have hq := hq.1 c9
        refine lv_iconst (v := 0) hx hb dX10_partGroups_98 (by decide) ?_
        refine lv_istore_n (lv' := [(3, .int 0), (0, .ref (G.2.2 64)), (2, .int x2), (4, .int x4)]) hx hb dX10_partGroups_99 rfl hl (by decide) rfl (fun ls hl => ?_)
        obtain ⟨x4_10, ex4_10⟩ : ∃ y : Int32, y = x4 + 1 := ⟨_, rfl⟩
        have hq := hq x4_10 ex4_10
        refine lv_iinc (v := x4_10) (lv' := [(4, .int x4_10), (3, .int 0), (0, .ref (G.2.2 64)), (2, .int x2)]) hx hb dX10_partGroups_100 hl (k := 3) rfl (by rw [ex4_10]; rfl) (by decide) rfl (fun ls hl => ?_)
        refine lv_goto (tgt := 22) hx hb dX10_partGroups_103 (by decide) ?_
        exact hX22 _ _ _ _ _ _ hW (lv_sub hl [2, 3, 1, 0] rfl) hq
      · have hq := hq.2 c9
        refine lv_aload_n hx hb dX10_partGroups_82 rfl (lv_at hl 0 rfl) ?_
        refine gt10_5 C hK hW (rfl : shC 64 = 10) (List.mem_cons_of_mem _ mw221) (fun _ h9 => List.mem_cons_of_mem _ (inU_wsX100 _ h9)) dX10_partGroups_83 ?_
        refine lv_iload hx hb dX10_partGroups_86 (lv_at hl 3 rfl) ?_
        refine k_iald C hK hW (shC_lt (rfl : shC 67 = 14) (by decide)) (ceC_14 (rfl : shC 67 = 14) (rfl : lnC 67 = 10000)) hq.1 dX10_partGroups_88 ?_
        have hq := hq.2
        refine lv_iload hx hb dX10_partGroups_89 (lv_at hl 3 rfl) ?_
        refine lv_icmp_ne (tgt := 98) hx hb dX10_partGroups_91 (by decide) (fun c11 => ?_) (fun c11 => ?_)
        · have hq := hq.1 c11
          refine lv_iconst (v := 0) hx hb dX10_partGroups_98 (by decide) ?_
          refine lv_istore_n (lv' := [(3, .int 0), (0, .ref (G.2.2 64)), (2, .int x2), (4, .int x4)]) hx hb dX10_partGroups_99 rfl hl (by decide) rfl (fun ls hl => ?_)
          obtain ⟨x4_12, ex4_12⟩ : ∃ y : Int32, y = x4 + 1 := ⟨_, rfl⟩
          have hq := hq x4_12 ex4_12
          refine lv_iinc (v := x4_12) (lv' := [(4, .int x4_12), (3, .int 0), (0, .ref (G.2.2 64)), (2, .int x2)]) hx hb dX10_partGroups_100 hl (k := 3) rfl (by rw [ex4_12]; rfl) (by decide) rfl (fun ls hl => ?_)
          refine lv_goto (tgt := 22) hx hb dX10_partGroups_103 (by decide) ?_
          exact hX22 _ _ _ _ _ _ hW (lv_sub hl [2, 3, 1, 0] rfl) hq
        · have hq := hq.2 c11
          refine lv_iconst (v := 1) hx hb dX10_partGroups_94 (by decide) ?_
          refine lv_goto (tgt := 99) hx hb dX10_partGroups_95 (by decide) ?_
          refine lv_istore_n (lv' := [(3, .int 1), (0, .ref (G.2.2 64)), (2, .int x2), (4, .int x4)]) hx hb dX10_partGroups_99 rfl hl (by decide) rfl (fun ls hl => ?_)
          obtain ⟨x4_13, ex4_13⟩ : ∃ y : Int32, y = x4 + 1 := ⟨_, rfl⟩
          have hq := hq x4_13 ex4_13
          refine lv_iinc (v := x4_13) (lv' := [(4, .int x4_13), (3, .int 1), (0, .ref (G.2.2 64)), (2, .int x2)]) hx hb dX10_partGroups_100 hl (k := 3) rfl (by rw [ex4_13]; rfl) (by decide) rfl (fun ls hl => ?_)
          refine lv_goto (tgt := 22) hx hb dX10_partGroups_103 (by decide) ?_
          exact hX22 _ _ _ _ _ _ hW (lv_sub hl [2, 3, 1, 0] rfl) hq
theorem k_X10_partGroups_22 {Q : Int32 → hp → Prop} {x2 : Int32} (C : kC p s m args meth c cX10_partGroups 5 (some .boolean) RX10 wUX10_partGroups) (hK : kK G s) {x3 : Int32} {x4 : Int32} {h : hp} {H : Heap} {locs : List Loc} {ls : Array Slot} (hW : kW SC G h (aS SC G) s H locs) (hl : lv_has ls 5 [(0, .ref (G.2.2 64)), (2, .int x2), (3, .int x3), (4, .int x4)]) (hq : w_X10_partGroups_22 Q x2 x3 x4 h) : W p l e rmX10_partGroups s m args below meth c H locs 0 0 (MQ below (va_Qi Q (kB SC G) (aS SC G)) args s 0 0 (aS SC G)) (F0 m 22 ls []) := by
  have key := hq (fun (q : Int32 × Int32 × hp) => ∀ (H : Heap) (locs : List Loc) (ls : Array Slot), kW SC G q.2.2 (aS SC G) s H locs → lv_has ls 5 [(0, .ref (G.2.2 64)), (2, .int x2), (3, .int q.1), (4, .int q.2.1)] → W p l e rmX10_partGroups s m args below meth c H locs 0 0 (MQ below (va_Qi Q (kB SC G) (aS SC G)) args s 0 0 (aS SC G)) (F0 m 22 ls []))
    (fun q hq H locs ls hW hl => k_X10_partGroups_b22 C hK (fun x3 x4 h H locs ls hW hl hI => hI H locs ls hW hl) hW hl hq)
  exact key _ _ _ hW hl
theorem k_X10_partGroups_0 {Q : Int32 → hp → Prop} {x1 : Int32} {x2 : Int32} {h : hp} (C : kC p s m args meth c cX10_partGroups 5 (some .boolean) RX10 wUX10_partGroups) (hK : kK G s) {H : Heap} {locs : List Loc} {ls : Array Slot} (hW : kW SC G h (aS SC G) s H locs) (hl : lv_has ls 5 [(0, .ref (G.2.2 64)), (1, .int x1), (2, .int x2)]) (hq : w_X10_partGroups_0 Q x1 x2 h) : W p l e rmX10_partGroups s m args below meth c H locs 0 0 (MQ below (va_Qi Q (kB SC G) (aS SC G)) args s 0 0 (aS SC G)) (F0 m 0 ls []) := by
  have hx := C.1
  have hb := C.2.1
  unfold w_X10_partGroups_0 at hq
  refine lv_iconst (v := 1) hx hb dX10_partGroups_0 (by decide) ?_
  refine lv_istore_n (lv' := [(3, .int 1), (0, .ref (G.2.2 64)), (1, .int x1), (2, .int x2)]) hx hb dX10_partGroups_1 rfl hl (by decide) rfl (fun ls hl => ?_)
  refine lv_aload_n hx hb dX10_partGroups_2 rfl (lv_at hl 1 rfl) ?_
  refine lv_iload_n hx hb dX10_partGroups_3 rfl (lv_at hl 2 rfl) ?_
  refine lv_i2l (v := x1.toInt64) hx hb dX10_partGroups_4 rfl ?_
  refine k_cv hW (va_runV (As := [.long (x1.toInt64)]) (rest := []) (k_fix C) (c_X10_comeBy l G h (x1.toInt64) _ hq) (cwV 1 C.2.2.2.2.2.1 (gU_V mw854 mw855 mw856 mw34 mw857) rfl rfl rfl (by decide +kernel) ⟨Nat.le_of_ble_eq_true rfl, Nat.le_of_ble_eq_true rfl⟩) (k_preV hK hW (shC_lt (rfl : shC 64 = 10) (by decide)) (ceC_10 (rfl : shC 64 = 10)) (q := (RX10, TX10, 7)) rfl) rfl rfl hl.1 rfl (lv_room (Nat.le_of_ble_eq_true rfl)) dX10_partGroups_5 ⟨Nat.le_refl 0, Nat.le_refl 0⟩) (fun h1 H locs hq hW => ?_)
  refine lv_aload_n hx hb dX10_partGroups_8 rfl (lv_at hl 1 rfl) ?_
  refine gt10_6 C hK hW (rfl : shC 64 = 10) (List.mem_cons_of_mem _ mw225) (fun _ h9 => List.mem_cons_of_mem _ (inU_wsX100 _ h9)) dX10_partGroups_9 ?_
  refine lv_aload_n hx hb dX10_partGroups_12 rfl (lv_at hl 1 rfl) ?_
  refine gt10_1 C hK hW (rfl : shC 64 = 10) (List.mem_cons_of_mem _ mw217) (fun _ h9 => List.mem_cons_of_mem _ (inU_wsX100 _ h9)) dX10_partGroups_13 ?_
  refine k_cv hW (va_runV (As := [.int (gI h1 64 1)]) (rest := []) (k_fix C) (c_X4_clear l G h1 (gI h1 64 1) _ hq) (cwV 1 C.2.2.2.2.2.1 (gU_V mw858 mw859 mw860 mw224 mw861) rfl rfl rfl (by decide +kernel) ⟨Nat.le_of_ble_eq_true rfl, Nat.le_of_ble_eq_true rfl⟩) (k_preV hK hW (shC_lt (rfl : shC 68 = 4) (by decide)) (ceC_4 (rfl : shC 68 = 4)) (q := (RX4, TX4, 3)) rfl) rfl rfl hl.1 rfl (lv_room (Nat.le_of_ble_eq_true rfl)) dX10_partGroups_16 ⟨Nat.le_refl 0, Nat.le_refl 0⟩) (fun h2 H locs hq hW => ?_)
  refine lv_iconst (v := 0) hx hb dX10_partGroups_19 (by decide) ?_
  refine lv_istore (lv' := [(4, .int 0), (3, .int 1), (0, .ref (G.2.2 64)), (1, .int x1), (2, .int x2)]) hx hb dX10_partGroups_20 hl (by decide) rfl (fun ls hl => ?_)
  exact k_X10_partGroups_22 C hK hW (lv_sub hl [2, 4, 1, 0] rfl) hq
theorem c_X10_partGroups (l : Launch) (G : wG) (h : hp) (x1 : Int32) (x2 : Int32) (Q : Int32 → hp → Prop) (hq : w_X10_partGroups h x1 x2 Q) : ctI l SC G yX10_partGroups wUX10_partGroups rmX10_partGroups h [.ref (G.2.2 64), .int x1, .int x2] Q := by
  refine k_start (cc := cX10_partGroups) (maxL := 5) (rt := (some .boolean)) (own := RX10) (by decide +kernel) rfl rfl (Nat.le_of_ble_eq_true rfl) ?_
  intro p e s m below meth c ls C hK hW hl
  exact k_X10_partGroups_0 C hK hW hl hq
theorem k_X10_fewestNumbers_b10 {Q : Int32 → hp → Prop} {X10 : Int32 × hp → Prop} {x1 : Int32} (C : kC p s m args meth c cX10_fewestNumbers 3 (some .int) RX10 wUX10_fewestNumbers) (hK : kK G s) (hX10 : ∀ (x2 : Int32) (h : hp) (H : Heap) (locs : List Loc) (ls : Array Slot), kW SC G h (aS SC G) s H locs → lv_has ls 3 [(0, .ref (G.2.2 64)), (1, .int x1), (2, .int x2)] → X10 (x2, h) → W p l e rmX10_fewestNumbers s m args below meth c H locs 0 0 (MQ below (va_Qi Q (kB SC G) (aS SC G)) args s 0 0 (aS SC G)) (F0 m 10 ls [])) {x2 : Int32} {h : hp} {H : Heap} {locs : List Loc} {ls : Array Slot} (hW : kW SC G h (aS SC G) s H locs) (hl : lv_has ls 3 [(0, .ref (G.2.2 64)), (1, .int x1), (2, .int x2)]) (hq : w_X10_fewestNumbers_b10 Q x1 X10 x2 h) : W p l e rmX10_fewestNumbers s m args below meth c H locs 0 0 (MQ below (va_Qi Q (kB SC G) (aS SC G)) args s 0 0 (aS SC G)) (F0 m 10 ls []) := by
  have hx := C.1
  have hb := C.2.1
  unfold w_X10_fewestNumbers_b10 at hq
  refine lv_iload_n hx hb dX10_fewestNumbers_10 rfl (lv_at hl 2 rfl) ?_
  refine lv_bipush (v := 9) hx hb dX10_fewestNumbers_11 (by decide) ?_
  refine lv_icmp_gt (tgt := 33) hx hb dX10_fewestNumbers_13 (by decide) (fun c2 => ?_) (fun c2 => ?_)
  · have hq := hq.1 c2
    refine lv_bipush (v := (-2)) hx hb dX10_fewestNumbers_33 (by decide) ?_
    exact k_iret rfl C hW dX10_fewestNumbers_35 hq
  · have hq := hq.2 c2
    refine lv_aload_n hx hb dX10_fewestNumbers_16 rfl (lv_at hl 0 rfl) ?_
    refine lv_iload_n hx hb dX10_fewestNumbers_17 rfl (lv_at hl 2 rfl) ?_
    refine lv_iload_n hx hb dX10_fewestNumbers_18 rfl (lv_at hl 1 rfl) ?_
    refine k_ci hW (va_runV (As := [.int x2, .int x1]) (rest := []) (k_fix C) (c_X10_partGroups l G h x2 x1 _ hq) (cwV 2 C.2.2.2.2.2.1 (gU_V mw1105 mw1106 mw1107 mw34 mw1108) rfl rfl rfl (by decide +kernel) ⟨Nat.le_of_ble_eq_true rfl, Nat.le_of_ble_eq_true rfl⟩) (k_preV hK hW (shC_lt (rfl : shC 64 = 10) (by decide)) (ceC_10 (rfl : shC 64 = 10)) (q := (RX10, TX10, 7)) rfl) rfl rfl hl.1 rfl (lv_room (Nat.le_of_ble_eq_true rfl)) dX10_fewestNumbers_19 ⟨Nat.le_refl 0, Nat.le_refl 0⟩) (fun r4 h3 H locs hq hW => ?_)
    refine lv_if_eq (tgt := 27) hx hb dX10_fewestNumbers_22 (by decide) (fun c5 => ?_) (fun c5 => ?_)
    · have hq := hq.1 c5
      obtain ⟨x2_6, ex2_6⟩ : ∃ y : Int32, y = x2 + 1 := ⟨_, rfl⟩
      have hq := hq x2_6 ex2_6
      refine lv_iinc (v := x2_6) (lv' := [(2, .int x2_6), (0, .ref (G.2.2 64)), (1, .int x1)]) hx hb dX10_fewestNumbers_27 hl (k := 2) rfl (by rw [ex2_6]; rfl) (by decide) rfl (fun ls hl => ?_)
      refine lv_goto (tgt := 10) hx hb dX10_fewestNumbers_30 (by decide) ?_
      exact hX10 _ _ _ _ _ hW (lv_sub hl [1, 2, 0] rfl) hq
    · have hq := hq.2 c5
      refine lv_iload_n hx hb dX10_fewestNumbers_25 rfl (lv_at hl 2 rfl) ?_
      exact k_iret rfl C hW dX10_fewestNumbers_26 hq
theorem k_X10_fewestNumbers_10 {Q : Int32 → hp → Prop} {x1 : Int32} (C : kC p s m args meth c cX10_fewestNumbers 3 (some .int) RX10 wUX10_fewestNumbers) (hK : kK G s) {x2 : Int32} {h : hp} {H : Heap} {locs : List Loc} {ls : Array Slot} (hW : kW SC G h (aS SC G) s H locs) (hl : lv_has ls 3 [(0, .ref (G.2.2 64)), (1, .int x1), (2, .int x2)]) (hq : w_X10_fewestNumbers_10 Q x1 x2 h) : W p l e rmX10_fewestNumbers s m args below meth c H locs 0 0 (MQ below (va_Qi Q (kB SC G) (aS SC G)) args s 0 0 (aS SC G)) (F0 m 10 ls []) := by
  have key := hq (fun (q : Int32 × hp) => ∀ (H : Heap) (locs : List Loc) (ls : Array Slot), kW SC G q.2 (aS SC G) s H locs → lv_has ls 3 [(0, .ref (G.2.2 64)), (1, .int x1), (2, .int q.1)] → W p l e rmX10_fewestNumbers s m args below meth c H locs 0 0 (MQ below (va_Qi Q (kB SC G) (aS SC G)) args s 0 0 (aS SC G)) (F0 m 10 ls []))
    (fun q hq H locs ls hW hl => k_X10_fewestNumbers_b10 C hK (fun x2 h H locs ls hW hl hI => hI H locs ls hW hl) hW hl hq)
  exact key _ _ _ hW hl
theorem k_X10_fewestNumbers_0 {Q : Int32 → hp → Prop} {x1 : Int32} {h : hp} (C : kC p s m args meth c cX10_fewestNumbers 3 (some .int) RX10 wUX10_fewestNumbers) (hK : kK G s) {H : Heap} {locs : List Loc} {ls : Array Slot} (hW : kW SC G h (aS SC G) s H locs) (hl : lv_has ls 3 [(0, .ref (G.2.2 64)), (1, .int x1)]) (hq : w_X10_fewestNumbers_0 Q x1 h) : W p l e rmX10_fewestNumbers s m args below meth c H locs 0 0 (MQ below (va_Qi Q (kB SC G) (aS SC G)) args s 0 0 (aS SC G)) (F0 m 0 ls []) := by
  have hx := C.1
  have hb := C.2.1
  unfold w_X10_fewestNumbers_0 at hq
  refine lv_aload_n hx hb dX10_fewestNumbers_0 rfl (lv_at hl 0 rfl) ?_
  refine gt10_5 C hK hW (rfl : shC 64 = 10) (List.mem_cons_of_mem _ mw221) (fun _ h9 => List.mem_cons_of_mem _ (inU_wsX100 _ h9)) dX10_fewestNumbers_1 ?_
  refine lv_iconst (v := 0) hx hb dX10_fewestNumbers_4 (by decide) ?_
  refine k_cv hW (va_runS (As := [.ref (G.2.2 67), .int 0]) (rest := []) (k_fix C) (c_J7_fill_53178 l G (rfl : shC 67 = 14) (rfl : lnC 67 = 10000) h 0 _ hq) (va_cwS 2 C.2.2.2.2.2.1 (gU_S mw1102 mw1103 mw864 mw1104) rfl rfl rfl (by decide +kernel) ⟨Nat.le_of_ble_eq_true rfl, Nat.le_of_ble_eq_true rfl⟩) (k_preS hK hW) rfl rfl hl.1 rfl (lv_room (Nat.le_of_ble_eq_true rfl)) dX10_fewestNumbers_5 ⟨Nat.le_refl 0, Nat.le_refl 0⟩) (fun h1 H locs hq hW => ?_)
  refine lv_iconst (v := 1) hx hb dX10_fewestNumbers_8 (by decide) ?_
  refine lv_istore_n (lv' := [(2, .int 1), (0, .ref (G.2.2 64)), (1, .int x1)]) hx hb dX10_fewestNumbers_9 rfl hl (by decide) rfl (fun ls hl => ?_)
  exact k_X10_fewestNumbers_10 C hK hW (lv_sub hl [1, 2, 0] rfl) hq
theorem c_X10_fewestNumbers (l : Launch) (G : wG) (h : hp) (x1 : Int32) (Q : Int32 → hp → Prop) (hq : w_X10_fewestNumbers h x1 Q) : ctI l SC G yX10_fewestNumbers wUX10_fewestNumbers rmX10_fewestNumbers h [.ref (G.2.2 64), .int x1] Q := by
  refine k_start (cc := cX10_fewestNumbers) (maxL := 3) (rt := (some .int)) (own := RX10) (by decide +kernel) rfl rfl (Nat.le_of_ble_eq_true rfl) ?_
  intro p e s m below meth c ls C hK hW hl
  exact k_X10_fewestNumbers_0 C hK hW hl hq
theorem k_X11_begin_b9 {Q : hp → Prop} {X9 : Int32 × hp → Prop} (C : kC p s m args meth c cX11_begin 2 none RX11 wUX11_begin) (hK : kK G s) (hX9 : ∀ (x1 : Int32) (h : hp) (H : Heap) (locs : List Loc) (ls : Array Slot), kW SC G h (aS SC G) s H locs → lv_has ls 2 [(0, .ref (G.2.2 0)), (1, .int x1)] → X9 (x1, h) → W p l e rmX11_begin s m args below meth c H locs 0 0 (MQ below (va_Qv Q (kB SC G) (aS SC G)) args s 0 0 (aS SC G)) (F0 m 9 ls [])) {x1 : Int32} {h : hp} {H : Heap} {locs : List Loc} {ls : Array Slot} (hW : kW SC G h (aS SC G) s H locs) (hl : lv_has ls 2 [(0, .ref (G.2.2 0)), (1, .int x1)]) (hq : w_X11_begin_b9 Q X9 x1 h) : W p l e rmX11_begin s m args below meth c H locs 0 0 (MQ below (va_Qv Q (kB SC G) (aS SC G)) args s 0 0 (aS SC G)) (F0 m 9 ls []) := by
  have hx := C.1
  have hb := C.2.1
  unfold w_X11_begin_b9 at hq
  refine lv_iload_n hx hb dX11_begin_9 rfl (lv_at hl 1 rfl) ?_
  refine lv_iconst (v := 3) hx hb dX11_begin_10 (by decide) ?_
  refine lv_icmp_ge (tgt := 39) hx hb dX11_begin_11 (by decide) (fun c2 => ?_) (fun c2 => ?_)
  · have hq := hq.1 c2
    refine lv_aload_n hx hb dX11_begin_39 rfl (lv_at hl 0 rfl) ?_
    refine lv_bipush (v := (-2)) hx hb dX11_begin_40 (by decide) ?_
    refine pt11_7 C hK hW (rfl : shC 0 = 11) (List.mem_cons_of_mem _ mw30) (fun _ h9 => List.mem_cons_of_mem _ (inU_wsX110 _ h9)) dX11_begin_42 (fun h3 H locs eh3 hW => ?_)
    have hq := hq h3 eh3
    refine lv_aload_n hx hb dX11_begin_45 rfl (lv_at hl 0 rfl) ?_
    refine lv_iconst (v := 0) hx hb dX11_begin_46 (by decide) ?_
    refine pt11_8 C hK hW (rfl : shC 0 = 11) (List.mem_cons_of_mem _ mw31) (fun _ h9 => List.mem_cons_of_mem _ (inU_wsX110 _ h9)) dX11_begin_47 (fun h4 H locs eh4 hW => ?_)
    have hq := hq h4 eh4
    refine lv_aload_n hx hb dX11_begin_50 rfl (lv_at hl 0 rfl) ?_
    refine gt11_9 C hK hW (rfl : shC 0 = 11) (List.mem_cons_of_mem _ mw35) (fun _ h9 => List.mem_cons_of_mem _ (inU_wsX110 _ h9)) dX11_begin_51 ?_
    refine lv_aload_n hx hb dX11_begin_54 rfl (lv_at hl 0 rfl) ?_
    refine gt11_4 C hK hW (rfl : shC 0 = 11) (List.mem_cons_of_mem _ mw24) (fun _ h9 => List.mem_cons_of_mem _ (inU_wsX110 _ h9)) dX11_begin_55 ?_
    have hr5 := hq.1
    have hq := hq.2
    refine gt7_7 C hK hW hr5 (List.mem_cons_of_mem _ mw249) (fun _ h9 => List.mem_cons_of_mem _ (inU_wsX70 _ h9)) dX11_begin_58 ?_
    refine lv_aload_n hx hb dX11_begin_61 rfl (lv_at hl 0 rfl) ?_
    refine gt11_4 C hK hW (rfl : shC 0 = 11) (List.mem_cons_of_mem _ mw24) (fun _ h9 => List.mem_cons_of_mem _ (inU_wsX110 _ h9)) dX11_begin_62 ?_
    have hr6 := hq.1
    have hq := hq.2
    refine gt7_8 C hK hW hr6 (List.mem_cons_of_mem _ mw250) (fun _ h9 => List.mem_cons_of_mem _ (inU_wsX70 _ h9)) dX11_begin_65 ?_
    refine k_cv hW (va_runV (As := [.int (gI h4 (gR h4 0) 7), .int (gI h4 (gR h4 0) 8)]) (rest := []) (k_fix C) (c_X10_settle l G h4 (gI h4 (gR h4 0) 7) (gI h4 (gR h4 0) 8) _ hq) (cwV 2 C.2.2.2.2.2.1 (gU_V mw255 mw256 mw257 mw34 mw258) rfl rfl rfl (by decide +kernel) ⟨Nat.le_of_ble_eq_true rfl, Nat.le_of_ble_eq_true rfl⟩) (k_preV hK hW (shC_lt (rfl : shC 64 = 10) (by decide)) (ceC_10 (rfl : shC 64 = 10)) (q := (RX10, TX10, 7)) rfl) rfl rfl hl.1 rfl (lv_room (Nat.le_of_ble_eq_true rfl)) dX11_begin_68 ⟨Nat.le_refl 0, Nat.le_refl 0⟩) (fun h7 H locs hq hW => ?_)
    exact k_vret rfl C hW dX11_begin_71 hq
  · have hq := hq.2 c2
    refine lv_aload_n hx hb dX11_begin_14 rfl (lv_at hl 0 rfl) ?_
    refine gt11_6 C hK hW (rfl : shC 0 = 11) (List.mem_cons_of_mem _ mw29) (fun _ h9 => List.mem_cons_of_mem _ (inU_wsX110 _ h9)) dX11_begin_15 ?_
    refine lv_iload_n hx hb dX11_begin_18 rfl (lv_at hl 1 rfl) ?_
    have hv8 := hq.1
    have hq := hq.2
    refine k_aald C hK hW (shC_lt (rfl : shC 63 = 17) (by decide)) (t0 := 4) rfl rfl (ceC_17 (rfl : shC 63 = 17)) hv8 (sl_if hv8) dX11_begin_19 ?_
    refine k_cv hW (va_runV (As := []) (rest := []) (k_fix C) (c_X9_clear l G (sl_T hv8) h _ hq) (cwV 0 C.2.2.2.2.2.1 (gU_V mw251 mw252 mw253 mw27 mw254) rfl rfl rfl (by decide +kernel) ⟨Nat.le_of_ble_eq_true rfl, Nat.le_of_ble_eq_true rfl⟩) (k_preV hK hW (shC_lt (sl_T hv8) (by decide)) (ceC_9 (sl_T hv8)) (q := (RX9, TX9, 4)) rfl) rfl rfl hl.1 rfl (lv_room (Nat.le_of_ble_eq_true rfl)) dX11_begin_20 ⟨Nat.le_refl 0, Nat.le_refl 0⟩) (fun h9 H locs hq hW => ?_)
    refine lv_aload_n hx hb dX11_begin_23 rfl (lv_at hl 0 rfl) ?_
    refine gt11_6 C hK hW (rfl : shC 0 = 11) (List.mem_cons_of_mem _ mw29) (fun _ h9 => List.mem_cons_of_mem _ (inU_wsX110 _ h9)) dX11_begin_24 ?_
    refine lv_iload_n hx hb dX11_begin_27 rfl (lv_at hl 1 rfl) ?_
    have hv10 := hq.1
    have hq := hq.2
    refine k_aald C hK hW (shC_lt (rfl : shC 63 = 17) (by decide)) (t0 := 4) rfl rfl (ceC_17 (rfl : shC 63 = 17)) hv10 (sl_if hv10) dX11_begin_28 ?_
    refine lv_iconst (v := 0) hx hb dX11_begin_29 (by decide) ?_
    refine pt9_3 C hK hW (sl_T hv10) (List.mem_cons_of_mem _ mw248) (fun _ h9 => List.mem_cons_of_mem _ (inU_wsX90 _ h9)) isZ_0 dX11_begin_30 (fun h11 H locs eh11 hW => ?_)
    have hq := hq h11 eh11
    obtain ⟨x1_12, ex1_12⟩ : ∃ y : Int32, y = x1 + 1 := ⟨_, rfl⟩
    have hq := hq x1_12 ex1_12
    refine lv_iinc (v := x1_12) (lv' := [(1, .int x1_12), (0, .ref (G.2.2 0))]) hx hb dX11_begin_33 hl (k := 1) rfl (by rw [ex1_12]; rfl) (by decide) rfl (fun ls hl => ?_)
    refine lv_goto (tgt := 9) hx hb dX11_begin_36 (by decide) ?_
    exact hX9 _ _ _ _ _ hW (lv_sub hl [1, 0] rfl) hq
theorem k_X11_begin_9 {Q : hp → Prop} (C : kC p s m args meth c cX11_begin 2 none RX11 wUX11_begin) (hK : kK G s) {x1 : Int32} {h : hp} {H : Heap} {locs : List Loc} {ls : Array Slot} (hW : kW SC G h (aS SC G) s H locs) (hl : lv_has ls 2 [(0, .ref (G.2.2 0)), (1, .int x1)]) (hq : w_X11_begin_9 Q x1 h) : W p l e rmX11_begin s m args below meth c H locs 0 0 (MQ below (va_Qv Q (kB SC G) (aS SC G)) args s 0 0 (aS SC G)) (F0 m 9 ls []) := by
  have key := hq (fun (q : Int32 × hp) => ∀ (H : Heap) (locs : List Loc) (ls : Array Slot), kW SC G q.2 (aS SC G) s H locs → lv_has ls 2 [(0, .ref (G.2.2 0)), (1, .int q.1)] → W p l e rmX11_begin s m args below meth c H locs 0 0 (MQ below (va_Qv Q (kB SC G) (aS SC G)) args s 0 0 (aS SC G)) (F0 m 9 ls []))
    (fun q hq H locs ls hW hl => k_X11_begin_b9 C hK (fun x1 h H locs ls hW hl hI => hI H locs ls hW hl) hW hl hq)
  exact key _ _ _ hW hl
theorem k_X11_begin_0 {Q : hp → Prop} {h : hp} (C : kC p s m args meth c cX11_begin 2 none RX11 wUX11_begin) (hK : kK G s) {H : Heap} {locs : List Loc} {ls : Array Slot} (hW : kW SC G h (aS SC G) s H locs) (hl : lv_has ls 2 [(0, .ref (G.2.2 0))]) (hq : w_X11_begin_0 Q h) : W p l e rmX11_begin s m args below meth c H locs 0 0 (MQ below (va_Qv Q (kB SC G) (aS SC G)) args s 0 0 (aS SC G)) (F0 m 0 ls []) := by
  have hx := C.1
  have hb := C.2.1
  unfold w_X11_begin_0 at hq
  refine lv_aload_n hx hb dX11_begin_0 rfl (lv_at hl 0 rfl) ?_
  refine gt11_5 C hK hW (rfl : shC 0 = 11) (List.mem_cons_of_mem _ mw28) (fun _ h9 => List.mem_cons_of_mem _ (inU_wsX110 _ h9)) dX11_begin_1 ?_
  refine k_cv hW (va_runV (As := []) (rest := []) (k_fix C) (c_X9_clear l G (rfl : shC 51 = 9) h _ hq) (cwV 0 C.2.2.2.2.2.1 (gU_V mw251 mw252 mw253 mw27 mw254) rfl rfl rfl (by decide +kernel) ⟨Nat.le_of_ble_eq_true rfl, Nat.le_of_ble_eq_true rfl⟩) (k_preV hK hW (shC_lt (rfl : shC 51 = 9) (by decide)) (ceC_9 (rfl : shC 51 = 9)) (q := (RX9, TX9, 4)) rfl) rfl rfl hl.1 rfl (lv_room (Nat.le_of_ble_eq_true rfl)) dX11_begin_4 ⟨Nat.le_refl 0, Nat.le_refl 0⟩) (fun h1 H locs hq hW => ?_)
  refine lv_iconst (v := 0) hx hb dX11_begin_7 (by decide) ?_
  refine lv_istore_n (lv' := [(1, .int 0), (0, .ref (G.2.2 0))]) hx hb dX11_begin_8 rfl hl (by decide) rfl (fun ls hl => ?_)
  exact k_X11_begin_9 C hK hW (lv_sub hl [1, 0] rfl) hq
theorem c_X11_begin (l : Launch) (G : wG) (h : hp) (Q : hp → Prop) (hq : w_X11_begin h Q) : ctV l SC G yX11_begin wUX11_begin rmX11_begin h [.ref (G.2.2 0)] Q := by
  refine k_start (cc := cX11_begin) (maxL := 2) (rt := none) (own := RX11) (by decide +kernel) rfl rfl (Nat.le_of_ble_eq_true rfl) ?_
  intro p e s m below meth c ls C hK hW hl
  exact k_X11_begin_0 C hK hW hl hq
theorem k_X11_putFour_b3 {Q : hp → Prop} {X3 : Int32 × hp → Prop} {x1 : Int32} (C : kC p s m args meth c cX11_putFour 3 none RX11 wUX11_putFour) (hK : kK G s) (hX3 : ∀ (x2 : Int32) (h : hp) (H : Heap) (locs : List Loc) (ls : Array Slot), kW SC G h (aS SC G) s H locs → lv_has ls 3 [(0, .ref (G.2.2 0)), (1, .int x1), (2, .int x2)] → X3 (x2, h) → W p l e rmX11_putFour s m args below meth c H locs 0 0 (MQ below (va_Qv Q (kB SC G) (aS SC G)) args s 0 0 (aS SC G)) (F0 m 3 ls [])) {x2 : Int32} {h : hp} {H : Heap} {locs : List Loc} {ls : Array Slot} (hW : kW SC G h (aS SC G) s H locs) (hl : lv_has ls 3 [(0, .ref (G.2.2 0)), (1, .int x1), (2, .int x2)]) (hq : w_X11_putFour_b3 Q x1 X3 x2 h) : W p l e rmX11_putFour s m args below meth c H locs 0 0 (MQ below (va_Qv Q (kB SC G) (aS SC G)) args s 0 0 (aS SC G)) (F0 m 3 ls []) := by
  have hx := C.1
  have hb := C.2.1
  unfold w_X11_putFour_b3 at hq
  refine lv_iload_n hx hb dX11_putFour_3 rfl (lv_at hl 2 rfl) ?_
  refine lv_if_lt (tgt := 46) hx hb dX11_putFour_4 (by decide) (fun c1 => ?_) (fun c1 => ?_)
  · have hq := hq.1 c1
    exact k_vret rfl C hW dX11_putFour_46 hq
  · have hq := hq.2 c1
    refine lv_aload_n hx hb dX11_putFour_7 rfl (lv_at hl 0 rfl) ?_
    refine gt11_1 C hK hW (rfl : shC 0 = 11) (List.mem_cons_of_mem _ mw15) (fun _ h9 => List.mem_cons_of_mem _ (inU_wsX110 _ h9)) dX11_putFour_8 ?_
    refine lv_sipush (v := 2000) hx hb dX11_putFour_11 (by decide) ?_
    refine lv_icmp_ge (tgt := 46) hx hb dX11_putFour_14 (by decide) (fun c2 => ?_) (fun c2 => ?_)
    · have hq := hq.1 c2
      exact k_vret rfl C hW dX11_putFour_46 hq
    · have hq := hq.2 c2
      refine lv_aload_n hx hb dX11_putFour_17 rfl (lv_at hl 0 rfl) ?_
      refine gt11_0 C hK hW (rfl : shC 0 = 11) (List.mem_cons_of_mem _ mw14) (fun _ h9 => List.mem_cons_of_mem _ (inU_wsX110 _ h9)) dX11_putFour_18 ?_
      refine lv_aload_n hx hb dX11_putFour_21 rfl (lv_at hl 0 rfl) ?_
      refine gt11_1 C hK hW (rfl : shC 0 = 11) (List.mem_cons_of_mem _ mw15) (fun _ h9 => List.mem_cons_of_mem _ (inU_wsX110 _ h9)) dX11_putFour_22 ?_
      refine lv_iload_n hx hb dX11_putFour_25 rfl (lv_at hl 1 rfl) ?_
      refine lv_iload_n hx hb dX11_putFour_26 rfl (lv_at hl 2 rfl) ?_
      refine lv_iushr (v := jushr x1 x2) hx hb dX11_putFour_27 rfl ?_
      refine lv_i2b (v := (jushr x1 x2).toInt8.toInt32) hx hb dX11_putFour_28 rfl ?_
      refine k_bast okC C hK hW (shC_lt (rfl : shC 1 = 13) (by decide)) (fun g9 => ceC_13 (rfl : shC 1 = 13) (rfl : lnC 1 = 2000)) hq.1 dX11_putFour_29 (fun H locs hW => ?_)
      have hq := hq.2
      obtain ⟨h3, eh3⟩ : ∃ z : hp, z = sI h 1 (ix (gI h 0 1)) (jb ((jushr x1 x2).toInt8.toInt32)) := ⟨_, rfl⟩
      rw [← eh3] at hW
      have hq := hq h3 eh3
      refine lv_aload_n hx hb dX11_putFour_30 rfl (lv_at hl 0 rfl) ?_
      refine lv_dup hx hb dX11_putFour_31 rfl ?_
      refine gt11_1 C hK hW (rfl : shC 0 = 11) (List.mem_cons_of_mem _ mw15) (fun _ h9 => List.mem_cons_of_mem _ (inU_wsX110 _ h9)) dX11_putFour_32 ?_
      refine lv_iconst (v := 1) hx hb dX11_putFour_35 (by decide) ?_
      refine lv_iadd hx hb dX11_putFour_36 ?_
      refine pt11_1 C hK hW (rfl : shC 0 = 11) (List.mem_cons_of_mem _ mw15) (fun _ h9 => List.mem_cons_of_mem _ (inU_wsX110 _ h9)) dX11_putFour_37 (fun h4 H locs eh4 hW => ?_)
      have hq := hq h4 eh4
      obtain ⟨x2_5, ex2_5⟩ : ∃ y : Int32, y = x2 + (-8) := ⟨_, rfl⟩
      have hq := hq x2_5 ex2_5
      refine lv_iinc (v := x2_5) (lv' := [(2, .int x2_5), (0, .ref (G.2.2 0)), (1, .int x1)]) hx hb dX11_putFour_40 hl (k := 2) rfl (by rw [ex2_5]; rfl) (by decide) rfl (fun ls hl => ?_)
      refine lv_goto (tgt := 3) hx hb dX11_putFour_43 (by decide) ?_
      exact hX3 _ _ _ _ _ hW (lv_sub hl [1, 2, 0] rfl) hq
theorem k_X11_putFour_3 {Q : hp → Prop} {x1 : Int32} (C : kC p s m args meth c cX11_putFour 3 none RX11 wUX11_putFour) (hK : kK G s) {x2 : Int32} {h : hp} {H : Heap} {locs : List Loc} {ls : Array Slot} (hW : kW SC G h (aS SC G) s H locs) (hl : lv_has ls 3 [(0, .ref (G.2.2 0)), (1, .int x1), (2, .int x2)]) (hq : w_X11_putFour_3 Q x1 x2 h) : W p l e rmX11_putFour s m args below meth c H locs 0 0 (MQ below (va_Qv Q (kB SC G) (aS SC G)) args s 0 0 (aS SC G)) (F0 m 3 ls []) := by
  have key := hq (fun (q : Int32 × hp) => ∀ (H : Heap) (locs : List Loc) (ls : Array Slot), kW SC G q.2 (aS SC G) s H locs → lv_has ls 3 [(0, .ref (G.2.2 0)), (1, .int x1), (2, .int q.1)] → W p l e rmX11_putFour s m args below meth c H locs 0 0 (MQ below (va_Qv Q (kB SC G) (aS SC G)) args s 0 0 (aS SC G)) (F0 m 3 ls []))
    (fun q hq H locs ls hW hl => k_X11_putFour_b3 C hK (fun x2 h H locs ls hW hl hI => hI H locs ls hW hl) hW hl hq)
  exact key _ _ _ hW hl
theorem k_X11_putFour_0 {Q : hp → Prop} {x1 : Int32} {h : hp} (C : kC p s m args meth c cX11_putFour 3 none RX11 wUX11_putFour) (hK : kK G s) {H : Heap} {locs : List Loc} {ls : Array Slot} (hW : kW SC G h (aS SC G) s H locs) (hl : lv_has ls 3 [(0, .ref (G.2.2 0)), (1, .int x1)]) (hq : w_X11_putFour_0 Q x1 h) : W p l e rmX11_putFour s m args below meth c H locs 0 0 (MQ below (va_Qv Q (kB SC G) (aS SC G)) args s 0 0 (aS SC G)) (F0 m 0 ls []) := by
  have hx := C.1
  have hb := C.2.1
  unfold w_X11_putFour_0 at hq
  refine lv_bipush (v := 24) hx hb dX11_putFour_0 (by decide) ?_
  refine lv_istore_n (lv' := [(2, .int 24), (0, .ref (G.2.2 0)), (1, .int x1)]) hx hb dX11_putFour_2 rfl hl (by decide) rfl (fun ls hl => ?_)
  exact k_X11_putFour_3 C hK hW (lv_sub hl [1, 2, 0] rfl) hq
theorem c_X11_putFour (l : Launch) (G : wG) (h : hp) (x1 : Int32) (Q : hp → Prop) (hq : w_X11_putFour h x1 Q) : ctV l SC G yX11_putFour wUX11_putFour rmX11_putFour h [.ref (G.2.2 0), .int x1] Q := by
  refine k_start (cc := cX11_putFour) (maxL := 3) (rt := none) (own := RX11) (by decide +kernel) rfl rfl (Nat.le_of_ble_eq_true rfl) ?_
  intro p e s m below meth c ls C hK hW hl
  exact k_X11_putFour_0 C hK hW hl hq
end LINKS
