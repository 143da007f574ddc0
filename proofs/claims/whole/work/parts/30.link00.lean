section LINKS
variable {p : Program} {l : Launch} {e : Env} {s : State} {m : MethodId} {args : Array Value} {below : List Frame} {meth : Method} {c : Code} {G : wG}
theorem k_J6_bitCount_0f7a4_0 {Q : Int32 → Prop} {x0 : Int32} {h : hp} (C : kC p s m args meth c cJ6_bitCount_0f7a4 1 (some .int) RJ6 wUJ6_bitCount_0f7a4) (hK : kK G s) {H : Heap} {locs : List Loc} {ls : Array Slot} (hW : kW SC G h (aS SC G) s H locs) (hl : lv_has ls 1 [(0, .int x0)]) (hq : w_J6_bitCount_0f7a4_0 Q x0) : W p l e rmJ6_bitCount_0f7a4 s m args below meth c H locs 0 0 (MQ below (va_Qi (fun r9 h9 => h9 = h ∧ Q r9) (kB SC G) (aS SC G)) args s 0 0 (aS SC G)) (F0 m 0 ls []) := by
  have hx := C.1
  have hb := C.2.1
  unfold w_J6_bitCount_0f7a4_0 at hq
  refine lv_iload_n hx hb dJ6_bitCount_0f7a4_0 rfl (lv_at hl 0 rfl) ?_
  refine lv_iload_n hx hb dJ6_bitCount_0f7a4_1 rfl (lv_at hl 0 rfl) ?_
  refine lv_iconst (v := 1) hx hb dJ6_bitCount_0f7a4_2 (by decide) ?_
  refine lv_iushr (v := jushr x0 1) hx hb dJ6_bitCount_0f7a4_3 rfl ?_
  refine lv_ldcw (v := 1431655765) hx hb C.2.2.2.2.1 (C.2.2.2.2.2.1 _ (List.mem_cons_of_mem _ mw1234)) dJ6_bitCount_0f7a4_4 ?_
  refine lv_iand hx hb dJ6_bitCount_0f7a4_7 ?_
  refine lv_isub hx hb dJ6_bitCount_0f7a4_8 ?_
  refine lv_topi (fun x0_1 ex0_1 => ?_)
  have hq := hq x0_1 ex0_1
  refine lv_istore_n (lv' := [(0, .int x0_1)]) hx hb dJ6_bitCount_0f7a4_9 rfl hl (by decide) rfl (fun ls hl => ?_)
  refine lv_iload_n hx hb dJ6_bitCount_0f7a4_10 rfl (lv_at hl 0 rfl) ?_
  refine lv_ldcw (v := 858993459) hx hb C.2.2.2.2.1 (C.2.2.2.2.2.1 _ (List.mem_cons_of_mem _ mw1235)) dJ6_bitCount_0f7a4_11 ?_
  refine lv_iand hx hb dJ6_bitCount_0f7a4_14 ?_
  refine lv_iload_n hx hb dJ6_bitCount_0f7a4_15 rfl (lv_at hl 0 rfl) ?_
  refine lv_iconst (v := 2) hx hb dJ6_bitCount_0f7a4_16 (by decide) ?_
  refine lv_iushr (v := jushr x0_1 2) hx hb dJ6_bitCount_0f7a4_17 rfl ?_
  refine lv_ldcw (v := 858993459) hx hb C.2.2.2.2.1 (C.2.2.2.2.2.1 _ (List.mem_cons_of_mem _ mw1235)) dJ6_bitCount_0f7a4_18 ?_
  refine lv_iand hx hb dJ6_bitCount_0f7a4_21 ?_
  refine lv_iadd hx hb dJ6_bitCount_0f7a4_22 ?_
  refine lv_topi (fun x0_2 ex0_2 => ?_)
  have hq := hq x0_2 ex0_2
  refine lv_istore_n (lv' := [(0, .int x0_2)]) hx hb dJ6_bitCount_0f7a4_23 rfl hl (by decide) rfl (fun ls hl => ?_)
  refine lv_iload_n hx hb dJ6_bitCount_0f7a4_24 rfl (lv_at hl 0 rfl) ?_
  refine lv_iload_n hx hb dJ6_bitCount_0f7a4_25 rfl (lv_at hl 0 rfl) ?_
  refine lv_iconst (v := 4) hx hb dJ6_bitCount_0f7a4_26 (by decide) ?_
  refine lv_iushr (v := jushr x0_2 4) hx hb dJ6_bitCount_0f7a4_27 rfl ?_
  refine lv_iadd hx hb dJ6_bitCount_0f7a4_28 ?_
  refine lv_ldcw (v := 252645135) hx hb C.2.2.2.2.1 (C.2.2.2.2.2.1 _ (List.mem_cons_of_mem _ mw1236)) dJ6_bitCount_0f7a4_29 ?_
  refine lv_iand hx hb dJ6_bitCount_0f7a4_32 ?_
  refine lv_topi (fun x0_3 ex0_3 => ?_)
  have hq := hq x0_3 ex0_3
  refine lv_istore_n (lv' := [(0, .int x0_3)]) hx hb dJ6_bitCount_0f7a4_33 rfl hl (by decide) rfl (fun ls hl => ?_)
  refine lv_iload_n hx hb dJ6_bitCount_0f7a4_34 rfl (lv_at hl 0 rfl) ?_
  refine lv_iload_n hx hb dJ6_bitCount_0f7a4_35 rfl (lv_at hl 0 rfl) ?_
  refine lv_bipush (v := 8) hx hb dJ6_bitCount_0f7a4_36 (by decide) ?_
  refine lv_iushr (v := jushr x0_3 8) hx hb dJ6_bitCount_0f7a4_38 rfl ?_
  refine lv_iadd hx hb dJ6_bitCount_0f7a4_39 ?_
  refine lv_topi (fun x0_4 ex0_4 => ?_)
  have hq := hq x0_4 ex0_4
  refine lv_istore_n (lv' := [(0, .int x0_4)]) hx hb dJ6_bitCount_0f7a4_40 rfl hl (by decide) rfl (fun ls hl => ?_)
  refine lv_iload_n hx hb dJ6_bitCount_0f7a4_41 rfl (lv_at hl 0 rfl) ?_
  refine lv_iload_n hx hb dJ6_bitCount_0f7a4_42 rfl (lv_at hl 0 rfl) ?_
  refine lv_bipush (v := 16) hx hb dJ6_bitCount_0f7a4_43 (by decide) ?_
  refine lv_iushr (v := jushr x0_4 16) hx hb dJ6_bitCount_0f7a4_45 rfl ?_
  refine lv_iadd hx hb dJ6_bitCount_0f7a4_46 ?_
  refine lv_topi (fun x0_5 ex0_5 => ?_)
  have hq := hq x0_5 ex0_5
  refine lv_istore_n (lv' := [(0, .int x0_5)]) hx hb dJ6_bitCount_0f7a4_47 rfl hl (by decide) rfl (fun ls hl => ?_)
  refine lv_iload_n hx hb dJ6_bitCount_0f7a4_48 rfl (lv_at hl 0 rfl) ?_
  refine lv_bipush (v := 63) hx hb dJ6_bitCount_0f7a4_49 (by decide) ?_
  refine lv_iand hx hb dJ6_bitCount_0f7a4_51 ?_
  exact k_iret rfl C hW dJ6_bitCount_0f7a4_52 ⟨rfl, hq⟩
theorem c_J6_bitCount_0f7a4 (l : Launch) (G : wG) (h : hp) (x0 : Int32) (Q : Int32 → Prop) (hq : w_J6_bitCount_0f7a4 x0 Q) : ctI l SC G yJ6_bitCount_0f7a4 wUJ6_bitCount_0f7a4 rmJ6_bitCount_0f7a4 h [.int x0] (fun r9 h9 => h9 = h ∧ Q r9) := by
  refine k_start (cc := cJ6_bitCount_0f7a4) (maxL := 1) (rt := (some .int)) (own := RJ6) (by decide +kernel) rfl rfl (Nat.le_of_ble_eq_true rfl) ?_
  intro p e s m below meth c ls C hK hW hl
  exact k_J6_bitCount_0f7a4_0 C hK hW hl hq
theorem k_J9_floorMod_f86c9_0 {Q : Int64 → Prop} {x0 : Int64} {x2 : Int64} {h : hp} (C : kC p s m args meth c cJ9_floorMod_f86c9 6 (some .long) RJ9 wUJ9_floorMod_f86c9) (hK : kK G s) {H : Heap} {locs : List Loc} {ls : Array Slot} (hW : kW SC G h (aS SC G) s H locs) (hl : lv_has ls 6 [(0, .long x0), (2, .long x2)]) (hq : w_J9_floorMod_f86c9_0 Q x0 x2) : W p l e rmJ9_floorMod_f86c9 s m args below meth c H locs 0 0 (MQ below (va_Ql (fun r9 h9 => h9 = h ∧ Q r9) (kB SC G) (aS SC G)) args s 0 0 (aS SC G)) (F0 m 0 ls []) := by
  have hx := C.1
  have hb := C.2.1
  unfold w_J9_floorMod_f86c9_0 at hq
  refine lv_lload_n hx hb dJ9_floorMod_f86c9_0 rfl (lv_at hl 0 rfl) ?_
  refine lv_lload_n hx hb dJ9_floorMod_f86c9_1 rfl (lv_at hl 1 rfl) ?_
  refine k_lrem hx hb dJ9_floorMod_f86c9_2 hq.1 ?_
  have hq := hq.2
  refine lv_topl (fun x4_1 ex4_1 => ?_)
  have hq := hq x4_1 ex4_1
  refine lv_lstore (lv' := [(4, .long x4_1), (0, .long x0), (2, .long x2)]) hx hb dJ9_floorMod_f86c9_3 hl (by decide) rfl (fun ls hl => ?_)
  refine lv_lload_n hx hb dJ9_floorMod_f86c9_5 rfl (lv_at hl 1 rfl) ?_
  refine lv_lload_n hx hb dJ9_floorMod_f86c9_6 rfl (lv_at hl 2 rfl) ?_
  refine lv_lxor hx hb dJ9_floorMod_f86c9_7 ?_
  refine lv_lconst (v := 0) hx hb dJ9_floorMod_f86c9_8 (by decide) ?_
  refine W.lcmp hx hb dJ9_floorMod_f86c9_9 ?_
  refine lv_if_ge (tgt := 25) hx hb dJ9_floorMod_f86c9_10 (by decide) (fun c2 => ?_) (fun c2 => ?_)
  · have hq := hq.1 ((lg_cmp_ge _ _).mp c2)
    refine lv_lload hx hb dJ9_floorMod_f86c9_25 (lv_at hl 0 rfl) ?_
    exact k_lret rfl C hW dJ9_floorMod_f86c9_27 ⟨rfl, hq⟩
  · have hq := hq.2 (fun z => c2 ((lg_cmp_ge _ _).mpr z))
    refine lv_lload hx hb dJ9_floorMod_f86c9_13 (lv_at hl 0 rfl) ?_
    refine lv_lconst (v := 0) hx hb dJ9_floorMod_f86c9_15 (by decide) ?_
    refine W.lcmp hx hb dJ9_floorMod_f86c9_16 ?_
    refine lv_if_eq (tgt := 25) hx hb dJ9_floorMod_f86c9_17 (by decide) (fun c3 => ?_) (fun c3 => ?_)
    · have hq := hq.1 ((lg_cmp_eq _ _).mp c3)
      refine lv_lload hx hb dJ9_floorMod_f86c9_25 (lv_at hl 0 rfl) ?_
      exact k_lret rfl C hW dJ9_floorMod_f86c9_27 ⟨rfl, hq⟩
    · have hq := hq.2 (fun z => c3 ((lg_cmp_eq _ _).mpr z))
      refine lv_lload hx hb dJ9_floorMod_f86c9_20 (lv_at hl 0 rfl) ?_
      refine lv_lload_n hx hb dJ9_floorMod_f86c9_22 rfl (lv_at hl 2 rfl) ?_
      refine lv_ladd hx hb dJ9_floorMod_f86c9_23 ?_
      exact k_lret rfl C hW dJ9_floorMod_f86c9_24 ⟨rfl, hq⟩
theorem c_J9_floorMod_f86c9 (l : Launch) (G : wG) (h : hp) (x0 : Int64) (x2 : Int64) (Q : Int64 → Prop) (hq : w_J9_floorMod_f86c9 x0 x2 Q) : ctL l SC G yJ9_floorMod_f86c9 wUJ9_floorMod_f86c9 rmJ9_floorMod_f86c9 h [.long x0, .long x2] (fun r9 h9 => h9 = h ∧ Q r9) := by
  refine k_startF (cc := cJ9_floorMod_f86c9) (maxL := 6) (rt := (some .long)) (own := RJ9) (by decide +kernel) rfl rfl (Nat.le_of_ble_eq_true rfl) ?_
  intro p e s m below meth c ls C hK hW hl
  exact k_J9_floorMod_f86c9_0 C hK hW hl hq
theorem k_J7_rangeCheck_23922_0 {Q : Prop} {x0 : Int32} {x1 : Int32} {x2 : Int32} {h : hp} (C : kC p s m args meth c cJ7_rangeCheck_23922 3 none RJ7 wUJ7_rangeCheck_23922) (hK : kK G s) {H : Heap} {locs : List Loc} {ls : Array Slot} (hW : kW SC G h (aS SC G) s H locs) (hl : lv_has ls 3 [(0, .int x0), (1, .int x1), (2, .int x2)]) (hq : w_J7_rangeCheck_23922_0 Q x0 x1 x2) : W p l e rmJ7_rangeCheck_23922 s m args below meth c H locs 0 0 (MQ below (va_Qv (fun h9 => h9 = h ∧ Q) (kB SC G) (aS SC G)) args s 0 0 (aS SC G)) (F0 m 0 ls []) := by
  have hx := C.1
  have hb := C.2.1
  unfold w_J7_rangeCheck_23922_0 at hq
  refine lv_iload_n hx hb dJ7_rangeCheck_23922_0 rfl (lv_at hl 1 rfl) ?_
  refine lv_iload_n hx hb dJ7_rangeCheck_23922_1 rfl (lv_at hl 2 rfl) ?_
  refine lv_icmp_le (tgt := 46) hx hb dJ7_rangeCheck_23922_2 (by decide) (fun c1 => ?_) (fun c1 => ?_)
  · have hq := hq.1 c1
    refine lv_iload_n hx hb dJ7_rangeCheck_23922_46 rfl (lv_at hl 1 rfl) ?_
    refine lv_if_ge (tgt := 59) hx hb dJ7_rangeCheck_23922_47 (by decide) (fun c2 => ?_) (fun c2 => ?_)
    · have hq := hq.1 c2
      refine lv_iload_n hx hb dJ7_rangeCheck_23922_59 rfl (lv_at hl 2 rfl) ?_
      refine lv_iload_n hx hb dJ7_rangeCheck_23922_60 rfl (lv_at hl 0 rfl) ?_
      refine lv_icmp_le (tgt := 73) hx hb dJ7_rangeCheck_23922_61 (by decide) (fun c3 => ?_) (fun c3 => ?_)
      · have hq := hq.1 c3
        exact k_vret rfl C hW dJ7_rangeCheck_23922_73 ⟨rfl, hq⟩
      · have hq := hq.2 c3
        exact hq.elim
    · have hq := hq.2 c2
      exact hq.elim
  · have hq := hq.2 c1
    exact hq.elim
theorem c_J7_rangeCheck_23922 (l : Launch) (G : wG) (h : hp) (x0 : Int32) (x1 : Int32) (x2 : Int32) (Q : Prop) (hq : w_J7_rangeCheck_23922 x0 x1 x2 Q) : ctV l SC G yJ7_rangeCheck_23922 wUJ7_rangeCheck_23922 rmJ7_rangeCheck_23922 h [.int x0, .int x1, .int x2] (fun h9 => h9 = h ∧ Q) := by
  refine k_start (cc := cJ7_rangeCheck_23922) (maxL := 3) (rt := none) (own := RJ7) (by decide +kernel) rfl rfl (Nat.le_of_ble_eq_true rfl) ?_
  intro p e s m below meth c ls C hK hW hl
  exact k_J7_rangeCheck_23922_0 C hK hW hl hq
theorem k_J7_fill_53178_b5 {o1 : Nat} (ho1 : shC o1 = 14) {no1 : Nat} (hno1 : lnC o1 = no1) {Q : hp → Prop} {X5 : Int32 × hp → Prop} {x1 : Int32} {x3 : Int32} (C : kC p s m args meth c cJ7_fill_53178 4 none RJ7 wUJ7_fill_53178) (hK : kK G s) (hX5 : ∀ (x2 : Int32) (h : hp) (H : Heap) (locs : List Loc) (ls : Array Slot), kW SC G h (aS SC G) s H locs → lv_has ls 4 [(0, .ref (G.2.2 o1)), (1, .int x1), (2, .int x2), (3, .int x3)] → X5 (x2, h) → W p l e rmJ7_fill_53178 s m args below meth c H locs 0 0 (MQ below (va_Qv Q (kB SC G) (aS SC G)) args s 0 0 (aS SC G)) (F0 m 5 ls [])) {x2 : Int32} {h : hp} {H : Heap} {locs : List Loc} {ls : Array Slot} (hW : kW SC G h (aS SC G) s H locs) (hl : lv_has ls 4 [(0, .ref (G.2.2 o1)), (1, .int x1), (2, .int x2), (3, .int x3)]) (hq : w_J7_fill_53178_b5 o1 no1 Q x1 x3 X5 x2 h) : W p l e rmJ7_fill_53178 s m args below meth c H locs 0 0 (MQ below (va_Qv Q (kB SC G) (aS SC G)) args s 0 0 (aS SC G)) (F0 m 5 ls []) := by
  have hx := C.1
  have hb := C.2.1
  unfold w_J7_fill_53178_b5 at hq
  refine lv_iload_n hx hb dJ7_fill_53178_5 rfl (lv_at hl 2 rfl) ?_
  refine lv_iload_n hx hb dJ7_fill_53178_6 rfl (lv_at hl 3 rfl) ?_
  refine lv_icmp_ge (tgt := 20) hx hb dJ7_fill_53178_7 (by decide) (fun c2 => ?_) (fun c2 => ?_)
  · have hq := hq.1 c2
    exact k_vret rfl C hW dJ7_fill_53178_20 hq
  · have hq := hq.2 c2
    refine lv_aload_n hx hb dJ7_fill_53178_10 rfl (lv_at hl 0 rfl) ?_
    refine lv_iload_n hx hb dJ7_fill_53178_11 rfl (lv_at hl 2 rfl) ?_
    refine lv_iload_n hx hb dJ7_fill_53178_12 rfl (lv_at hl 1 rfl) ?_
    refine k_iast okC C hK hW (shC_lt ho1 (by decide)) (fun g9 => ceC_14 ho1 hno1) hq.1 dJ7_fill_53178_13 (fun H locs hW => ?_)
    have hq := hq.2
    obtain ⟨h3, eh3⟩ : ∃ z : hp, z = sI h o1 (ix x2) x1 := ⟨_, rfl⟩
    rw [← eh3] at hW
    have hq := hq h3 eh3
    obtain ⟨x2_4, ex2_4⟩ : ∃ y : Int32, y = x2 + 1 := ⟨_, rfl⟩
    have hq := hq x2_4 ex2_4
    refine lv_iinc (v := x2_4) (lv' := [(2, .int x2_4), (0, .ref (G.2.2 o1)), (1, .int x1), (3, .int x3)]) hx hb dJ7_fill_53178_14 hl (k := 2) rfl (by rw [ex2_4]; rfl) (by decide) rfl (fun ls hl => ?_)
    refine lv_goto (tgt := 5) hx hb dJ7_fill_53178_17 (by decide) ?_
    exact hX5 _ _ _ _ _ hW (lv_sub hl [1, 2, 0, 3] rfl) hq
theorem k_J7_fill_53178_5 {o1 : Nat} (ho1 : shC o1 = 14) {no1 : Nat} (hno1 : lnC o1 = no1) {Q : hp → Prop} {x1 : Int32} {x3 : Int32} (C : kC p s m args meth c cJ7_fill_53178 4 none RJ7 wUJ7_fill_53178) (hK : kK G s) {x2 : Int32} {h : hp} {H : Heap} {locs : List Loc} {ls : Array Slot} (hW : kW SC G h (aS SC G) s H locs) (hl : lv_has ls 4 [(0, .ref (G.2.2 o1)), (1, .int x1), (2, .int x2), (3, .int x3)]) (hq : w_J7_fill_53178_5 o1 no1 Q x1 x3 x2 h) : W p l e rmJ7_fill_53178 s m args below meth c H locs 0 0 (MQ below (va_Qv Q (kB SC G) (aS SC G)) args s 0 0 (aS SC G)) (F0 m 5 ls []) := by
  have key := hq (fun (q : Int32 × hp) => ∀ (H : Heap) (locs : List Loc) (ls : Array Slot), kW SC G q.2 (aS SC G) s H locs → lv_has ls 4 [(0, .ref (G.2.2 o1)), (1, .int x1), (2, .int q.1), (3, .int x3)] → W p l e rmJ7_fill_53178 s m args below meth c H locs 0 0 (MQ below (va_Qv Q (kB SC G) (aS SC G)) args s 0 0 (aS SC G)) (F0 m 5 ls []))
    (fun q hq H locs ls hW hl => k_J7_fill_53178_b5 ho1 hno1 C hK (fun x2 h H locs ls hW hl hI => hI H locs ls hW hl) hW hl hq)
  exact key _ _ _ hW hl
theorem k_J7_fill_53178_0 {o1 : Nat} (ho1 : shC o1 = 14) {no1 : Nat} (hno1 : lnC o1 = no1) {Q : hp → Prop} {x1 : Int32} {h : hp} (C : kC p s m args meth c cJ7_fill_53178 4 none RJ7 wUJ7_fill_53178) (hK : kK G s) {H : Heap} {locs : List Loc} {ls : Array Slot} (hW : kW SC G h (aS SC G) s H locs) (hl : lv_has ls 4 [(0, .ref (G.2.2 o1)), (1, .int x1)]) (hq : w_J7_fill_53178_0 o1 no1 Q x1 h) : W p l e rmJ7_fill_53178 s m args below meth c H locs 0 0 (MQ below (va_Qv Q (kB SC G) (aS SC G)) args s 0 0 (aS SC G)) (F0 m 0 ls []) := by
  have hx := C.1
  have hb := C.2.1
  unfold w_J7_fill_53178_0 at hq
  refine lv_iconst (v := 0) hx hb dJ7_fill_53178_0 (by decide) ?_
  refine lv_istore_n (lv' := [(2, .int 0), (0, .ref (G.2.2 o1)), (1, .int x1)]) hx hb dJ7_fill_53178_1 rfl hl (by decide) rfl (fun ls hl => ?_)
  refine lv_aload_n hx hb dJ7_fill_53178_2 rfl (lv_at hl 1 rfl) ?_
  refine k_alen C hK hW (shC_lt ho1 (by decide)) (t0 := 1) rfl (ceC_14 ho1 hno1) (v := nI no1) (by first | rfl | decide) dJ7_fill_53178_3 ?_
  refine lv_topi (fun x3_1 ex3_1 => ?_)
  have hq := hq x3_1 ex3_1
  refine lv_istore_n (lv' := [(3, .int x3_1), (2, .int 0), (0, .ref (G.2.2 o1)), (1, .int x1)]) hx hb dJ7_fill_53178_4 rfl hl (by decide) rfl (fun ls hl => ?_)
  exact k_J7_fill_53178_5 ho1 hno1 C hK hW (lv_sub hl [2, 3, 1, 0] rfl) hq
theorem c_J7_fill_53178 (l : Launch) (G : wG) {o1 : Nat} (ho1 : shC o1 = 14) {no1 : Nat} (hno1 : lnC o1 = no1) (h : hp) (x1 : Int32) (Q : hp → Prop) (hq : w_J7_fill_53178 o1 no1 h x1 Q) : ctV l SC G yJ7_fill_53178 wUJ7_fill_53178 rmJ7_fill_53178 h [.ref (G.2.2 o1), .int x1] Q := by
  refine k_start (cc := cJ7_fill_53178) (maxL := 4) (rt := none) (own := RJ7) (by decide +kernel) rfl rfl (Nat.le_of_ble_eq_true rfl) ?_
  intro p e s m below meth c ls C hK hW hl
  exact k_J7_fill_53178_0 ho1 hno1 C hK hW hl hq
theorem k_J7_fill_fda19_b10 {o1 : Nat} (ho1 : shC o1 = 14) {no1 : Nat} (hno1 : lnC o1 = no1) {Q : hp → Prop} {X10 : Int32 × hp → Prop} {x2 : Int32} {x3 : Int32} (C : kC p s m args meth c cJ7_fill_fda19 5 none RJ7 wUJ7_fill_fda19) (hK : kK G s) (hX10 : ∀ (x4 : Int32) (h : hp) (H : Heap) (locs : List Loc) (ls : Array Slot), kW SC G h (aS SC G) s H locs → lv_has ls 5 [(0, .ref (G.2.2 o1)), (2, .int x2), (3, .int x3), (4, .int x4)] → X10 (x4, h) → W p l e rmJ7_fill_fda19 s m args below meth c H locs 0 0 (MQ below (va_Qv Q (kB SC G) (aS SC G)) args s 0 0 (aS SC G)) (F0 m 10 ls [])) {x4 : Int32} {h : hp} {H : Heap} {locs : List Loc} {ls : Array Slot} (hW : kW SC G h (aS SC G) s H locs) (hl : lv_has ls 5 [(0, .ref (G.2.2 o1)), (2, .int x2), (3, .int x3), (4, .int x4)]) (hq : w_J7_fill_fda19_b10 o1 no1 Q x2 x3 X10 x4 h) : W p l e rmJ7_fill_fda19 s m args below meth c H locs 0 0 (MQ below (va_Qv Q (kB SC G) (aS SC G)) args s 0 0 (aS SC G)) (F0 m 10 ls []) := by
  have hx := C.1
  have hb := C.2.1
  unfold w_J7_fill_fda19_b10 at hq
  refine lv_iload hx hb dJ7_fill_fda19_10 (lv_at hl 3 rfl) ?_
  refine lv_iload_n hx hb dJ7_fill_fda19_12 rfl (lv_at hl 1 rfl) ?_
  refine lv_icmp_ge (tgt := 27) hx hb dJ7_fill_fda19_13 (by decide) (fun c2 => ?_) (fun c2 => ?_)
  · have hq := hq.1 c2
    exact k_vret rfl C hW dJ7_fill_fda19_27 hq
  · have hq := hq.2 c2
    refine lv_aload_n hx hb dJ7_fill_fda19_16 rfl (lv_at hl 0 rfl) ?_
    refine lv_iload hx hb dJ7_fill_fda19_17 (lv_at hl 3 rfl) ?_
    refine lv_iload_n hx hb dJ7_fill_fda19_19 rfl (lv_at hl 2 rfl) ?_
    refine k_iast okC C hK hW (shC_lt ho1 (by decide)) (fun g9 => ceC_14 ho1 hno1) hq.1 dJ7_fill_fda19_20 (fun H locs hW => ?_)
    have hq := hq.2
    obtain ⟨h3, eh3⟩ : ∃ z : hp, z = sI h o1 (ix x4) x3 := ⟨_, rfl⟩
    rw [← eh3] at hW
    have hq := hq h3 eh3
    obtain ⟨x4_4, ex4_4⟩ : ∃ y : Int32, y = x4 + 1 := ⟨_, rfl⟩
    have hq := hq x4_4 ex4_4
    refine lv_iinc (v := x4_4) (lv' := [(4, .int x4_4), (0, .ref (G.2.2 o1)), (2, .int x2), (3, .int x3)]) hx hb dJ7_fill_fda19_21 hl (k := 3) rfl (by rw [ex4_4]; rfl) (by decide) rfl (fun ls hl => ?_)
    refine lv_goto (tgt := 10) hx hb dJ7_fill_fda19_24 (by decide) ?_
    exact hX10 _ _ _ _ _ hW (lv_sub hl [1, 2, 3, 0] rfl) hq
theorem k_J7_fill_fda19_10 {o1 : Nat} (ho1 : shC o1 = 14) {no1 : Nat} (hno1 : lnC o1 = no1) {Q : hp → Prop} {x2 : Int32} {x3 : Int32} (C : kC p s m args meth c cJ7_fill_fda19 5 none RJ7 wUJ7_fill_fda19) (hK : kK G s) {x4 : Int32} {h : hp} {H : Heap} {locs : List Loc} {ls : Array Slot} (hW : kW SC G h (aS SC G) s H locs) (hl : lv_has ls 5 [(0, .ref (G.2.2 o1)), (2, .int x2), (3, .int x3), (4, .int x4)]) (hq : w_J7_fill_fda19_10 o1 no1 Q x2 x3 x4 h) : W p l e rmJ7_fill_fda19 s m args below meth c H locs 0 0 (MQ below (va_Qv Q (kB SC G) (aS SC G)) args s 0 0 (aS SC G)) (F0 m 10 ls []) := by
  have key := hq (fun (q : Int32 × hp) => ∀ (H : Heap) (locs : List Loc) (ls : Array Slot), kW SC G q.2 (aS SC G) s H locs → lv_has ls 5 [(0, .ref (G.2.2 o1)), (2, .int x2), (3, .int x3), (4, .int q.1)] → W p l e rmJ7_fill_fda19 s m args below meth c H locs 0 0 (MQ below (va_Qv Q (kB SC G) (aS SC G)) args s 0 0 (aS SC G)) (F0 m 10 ls []))
    (fun q hq H locs ls hW hl => k_J7_fill_fda19_b10 ho1 hno1 C hK (fun x4 h H locs ls hW hl hI => hI H locs ls hW hl) hW hl hq)
  exact key _ _ _ hW hl
theorem k_J7_fill_fda19_0 {o1 : Nat} (ho1 : shC o1 = 14) {no1 : Nat} (hno1 : lnC o1 = no1) {Q : hp → Prop} {x1 : Int32} {x2 : Int32} {x3 : Int32} {h : hp} (C : kC p s m args meth c cJ7_fill_fda19 5 none RJ7 wUJ7_fill_fda19) (hK : kK G s) {H : Heap} {locs : List Loc} {ls : Array Slot} (hW : kW SC G h (aS SC G) s H locs) (hl : lv_has ls 5 [(0, .ref (G.2.2 o1)), (1, .int x1), (2, .int x2), (3, .int x3)]) (hq : w_J7_fill_fda19_0 o1 no1 Q x1 x2 x3 h) : W p l e rmJ7_fill_fda19 s m args below meth c H locs 0 0 (MQ below (va_Qv Q (kB SC G) (aS SC G)) args s 0 0 (aS SC G)) (F0 m 0 ls []) := by
  have hx := C.1
  have hb := C.2.1
  unfold w_J7_fill_fda19_0 at hq
  refine lv_aload_n hx hb dJ7_fill_fda19_0 rfl (lv_at hl 0 rfl) ?_
  refine k_alen C hK hW (shC_lt ho1 (by decide)) (t0 := 1) rfl (ceC_14 ho1 hno1) (v := nI no1) (by first | rfl | decide) dJ7_fill_fda19_1 ?_
  refine lv_iload_n hx hb dJ7_fill_fda19_2 rfl (lv_at hl 1 rfl) ?_
  refine lv_iload_n hx hb dJ7_fill_fda19_3 rfl (lv_at hl 2 rfl) ?_
  refine k_cv hW (va_runS (As := [.int (nI no1), .int x1, .int x2]) (rest := []) (k_fix C) (c_J7_rangeCheck_23922 l G h (nI no1) x1 x2 _ hq) (va_cwS 3 C.2.2.2.2.2.1 (gU_S mw866 mw867 mw864 mw868) rfl rfl rfl (by decide +kernel) ⟨Nat.le_of_ble_eq_true rfl, Nat.le_of_ble_eq_true rfl⟩) (k_preS hK hW) rfl rfl hl.1 rfl (lv_room (Nat.le_of_ble_eq_true rfl)) dJ7_fill_fda19_4 ⟨Nat.le_refl 0, Nat.le_refl 0⟩) (fun h1 H locs hq hW => ?_)
  rw [hq.1] at hW
  have hq := hq.2
  refine lv_iload_n hx hb dJ7_fill_fda19_7 rfl (lv_at hl 1 rfl) ?_
  refine lv_istore (lv' := [(4, .int x1), (0, .ref (G.2.2 o1)), (1, .int x1), (2, .int x2), (3, .int x3)]) hx hb dJ7_fill_fda19_8 hl (by decide) rfl (fun ls hl => ?_)
  exact k_J7_fill_fda19_10 ho1 hno1 C hK hW (lv_sub hl [1, 3, 4, 0] rfl) hq
theorem c_J7_fill_fda19 (l : Launch) (G : wG) {o1 : Nat} (ho1 : shC o1 = 14) {no1 : Nat} (hno1 : lnC o1 = no1) (h : hp) (x1 : Int32) (x2 : Int32) (x3 : Int32) (Q : hp → Prop) (hq : w_J7_fill_fda19 o1 no1 h x1 x2 x3 Q) : ctV l SC G yJ7_fill_fda19 wUJ7_fill_fda19 rmJ7_fill_fda19 h [.ref (G.2.2 o1), .int x1, .int x2, .int x3] Q := by
  refine k_start (cc := cJ7_fill_fda19) (maxL := 5) (rt := none) (own := RJ7) (by decide +kernel) rfl rfl (Nat.le_of_ble_eq_true rfl) ?_
  intro p e s m below meth c ls C hK hW hl
  exact k_J7_fill_fda19_0 ho1 hno1 C hK hW hl hq
theorem k_J7_fill_031fb_b5 {o1 : Nat} (ho1 : shC o1 = 13) {no1 : Nat} (hno1 : lnC o1 = no1) {Q : hp → Prop} {X5 : Int32 × hp → Prop} {x1 : Int32} {x3 : Int32} (C : kC p s m args meth c cJ7_fill_031fb 4 none RJ7 wUJ7_fill_031fb) (hK : kK G s) (hX5 : ∀ (x2 : Int32) (h : hp) (H : Heap) (locs : List Loc) (ls : Array Slot), kW SC G h (aS SC G) s H locs → lv_has ls 4 [(0, .ref (G.2.2 o1)), (1, .int x1), (2, .int x2), (3, .int x3)] → X5 (x2, h) → W p l e rmJ7_fill_031fb s m args below meth c H locs 0 0 (MQ below (va_Qv Q (kB SC G) (aS SC G)) args s 0 0 (aS SC G)) (F0 m 5 ls [])) {x2 : Int32} {h : hp} {H : Heap} {locs : List Loc} {ls : Array Slot} (hW : kW SC G h (aS SC G) s H locs) (hl : lv_has ls 4 [(0, .ref (G.2.2 o1)), (1, .int x1), (2, .int x2), (3, .int x3)]) (hq : w_J7_fill_031fb_b5 o1 no1 Q x1 x3 X5 x2 h) : W p l e rmJ7_fill_031fb s m args below meth c H locs 0 0 (MQ below (va_Qv Q (kB SC G) (aS SC G)) args s 0 0 (aS SC G)) (F0 m 5 ls []) := by
  have hx := C.1
  have hb := C.2.1
  unfold w_J7_fill_031fb_b5 at hq
  refine lv_iload_n hx hb dJ7_fill_031fb_5 rfl (lv_at hl 2 rfl) ?_
  refine lv_iload_n hx hb dJ7_fill_031fb_6 rfl (lv_at hl 3 rfl) ?_
  refine lv_icmp_ge (tgt := 20) hx hb dJ7_fill_031fb_7 (by decide) (fun c2 => ?_) (fun c2 => ?_)
  · have hq := hq.1 c2
    exact k_vret rfl C hW dJ7_fill_031fb_20 hq
  · have hq := hq.2 c2
    refine lv_aload_n hx hb dJ7_fill_031fb_10 rfl (lv_at hl 0 rfl) ?_
    refine lv_iload_n hx hb dJ7_fill_031fb_11 rfl (lv_at hl 2 rfl) ?_
    refine lv_iload_n hx hb dJ7_fill_031fb_12 rfl (lv_at hl 1 rfl) ?_
    refine k_bast okC C hK hW (shC_lt ho1 (by decide)) (fun g9 => ceC_13 ho1 hno1) hq.1 dJ7_fill_031fb_13 (fun H locs hW => ?_)
    have hq := hq.2
    obtain ⟨h3, eh3⟩ : ∃ z : hp, z = sI h o1 (ix x2) (jb x1) := ⟨_, rfl⟩
    rw [← eh3] at hW
    have hq := hq h3 eh3
    obtain ⟨x2_4, ex2_4⟩ : ∃ y : Int32, y = x2 + 1 := ⟨_, rfl⟩
    have hq := hq x2_4 ex2_4
    refine lv_iinc (v := x2_4) (lv' := [(2, .int x2_4), (0, .ref (G.2.2 o1)), (1, .int x1), (3, .int x3)]) hx hb dJ7_fill_031fb_14 hl (k := 2) rfl (by rw [ex2_4]; rfl) (by decide) rfl (fun ls hl => ?_)
    refine lv_goto (tgt := 5) hx hb dJ7_fill_031fb_17 (by decide) ?_
    exact hX5 _ _ _ _ _ hW (lv_sub hl [1, 2, 0, 3] rfl) hq
theorem k_J7_fill_031fb_5 {o1 : Nat} (ho1 : shC o1 = 13) {no1 : Nat} (hno1 : lnC o1 = no1) {Q : hp → Prop} {x1 : Int32} {x3 : Int32} (C : kC p s m args meth c cJ7_fill_031fb 4 none RJ7 wUJ7_fill_031fb) (hK : kK G s) {x2 : Int32} {h : hp} {H : Heap} {locs : List Loc} {ls : Array Slot} (hW : kW SC G h (aS SC G) s H locs) (hl : lv_has ls 4 [(0, .ref (G.2.2 o1)), (1, .int x1), (2, .int x2), (3, .int x3)]) (hq : w_J7_fill_031fb_5 o1 no1 Q x1 x3 x2 h) : W p l e rmJ7_fill_031fb s m args below meth c H locs 0 0 (MQ below (va_Qv Q (kB SC G) (aS SC G)) args s 0 0 (aS SC G)) (F0 m 5 ls []) := by
  have key := hq (fun (q : Int32 × hp) => ∀ (H : Heap) (locs : List Loc) (ls : Array Slot), kW SC G q.2 (aS SC G) s H locs → lv_has ls 4 [(0, .ref (G.2.2 o1)), (1, .int x1), (2, .int q.1), (3, .int x3)] → W p l e rmJ7_fill_031fb s m args below meth c H locs 0 0 (MQ below (va_Qv Q (kB SC G) (aS SC G)) args s 0 0 (aS SC G)) (F0 m 5 ls []))
    (fun q hq H locs ls hW hl => k_J7_fill_031fb_b5 ho1 hno1 C hK (fun x2 h H locs ls hW hl hI => hI H locs ls hW hl) hW hl hq)
  exact key _ _ _ hW hl
theorem k_J7_fill_031fb_0 {o1 : Nat} (ho1 : shC o1 = 13) {no1 : Nat} (hno1 : lnC o1 = no1) {Q : hp → Prop} {x1 : Int32} {h : hp} (C : kC p s m args meth c cJ7_fill_031fb 4 none RJ7 wUJ7_fill_031fb) (hK : kK G s) {H : Heap} {locs : List Loc} {ls : Array Slot} (hW : kW SC G h (aS SC G) s H locs) (hl : lv_has ls 4 [(0, .ref (G.2.2 o1)), (1, .int x1)]) (hq : w_J7_fill_031fb_0 o1 no1 Q x1 h) : W p l e rmJ7_fill_031fb s m args below meth c H locs 0 0 (MQ below (va_Qv Q (kB SC G) (aS SC G)) args s 0 0 (aS SC G)) (F0 m 0 ls []) := by
  have hx := C.1
  have hb := C.2.1
  unfold w_J7_fill_031fb_0 at hq
  refine lv_iconst (v := 0) hx hb dJ7_fill_031fb_0 (by decide) ?_
  refine lv_istore_n (lv' := [(2, .int 0), (0, .ref (G.2.2 o1)), (1, .int x1)]) hx hb dJ7_fill_031fb_1 rfl hl (by decide) rfl (fun ls hl => ?_)
  refine lv_aload_n hx hb dJ7_fill_031fb_2 rfl (lv_at hl 1 rfl) ?_
  refine k_alen C hK hW (shC_lt ho1 (by decide)) (t0 := 0) rfl (ceC_13 ho1 hno1) (v := nI no1) (by first | rfl | decide) dJ7_fill_031fb_3 ?_
  refine lv_topi (fun x3_1 ex3_1 => ?_)
  have hq := hq x3_1 ex3_1
  refine lv_istore_n (lv' := [(3, .int x3_1), (2, .int 0), (0, .ref (G.2.2 o1)), (1, .int x1)]) hx hb dJ7_fill_031fb_4 rfl hl (by decide) rfl (fun ls hl => ?_)
  exact k_J7_fill_031fb_5 ho1 hno1 C hK hW (lv_sub hl [2, 3, 1, 0] rfl) hq
theorem c_J7_fill_031fb (l : Launch) (G : wG) {o1 : Nat} (ho1 : shC o1 = 13) {no1 : Nat} (hno1 : lnC o1 = no1) (h : hp) (x1 : Int32) (Q : hp → Prop) (hq : w_J7_fill_031fb o1 no1 h x1 Q) : ctV l SC G yJ7_fill_031fb wUJ7_fill_031fb rmJ7_fill_031fb h [.ref (G.2.2 o1), .int x1] Q := by
  refine k_start (cc := cJ7_fill_031fb) (maxL := 4) (rt := none) (own := RJ7) (by decide +kernel) rfl rfl (Nat.le_of_ble_eq_true rfl) ?_
  intro p e s m below meth c ls C hK hW hl
  exact k_J7_fill_031fb_0 ho1 hno1 C hK hW hl hq
theorem k_X0_clear_0 {o : Nat} (ho : shC o = 0) {Q : hp → Prop} {h : hp} (C : kC p s m args meth c cX0_clear 1 none RX0 wUX0_clear) (hK : kK G s) {H : Heap} {locs : List Loc} {ls : Array Slot} (hW : kW SC G h (aS SC G) s H locs) (hl : lv_has ls 1 [(0, .ref (G.2.2 o))]) (hq : w_X0_clear_0 o Q h) : W p l e rmX0_clear s m args below meth c H locs 0 0 (MQ below (va_Qv Q (kB SC G) (aS SC G)) args s 0 0 (aS SC G)) (F0 m 0 ls []) := by
  have hx := C.1
  have hb := C.2.1
  unfold w_X0_clear_0 at hq
  refine lv_aload_n hx hb dX0_clear_0 rfl (lv_at hl 0 rfl) ?_
  refine lv_iconst (v := 0) hx hb dX0_clear_1 (by decide) ?_
  refine pt0_0 C hK hW ho (List.mem_cons_of_mem _ mw103) (fun _ h9 => List.mem_cons_of_mem _ (inU_wsX00 _ h9)) dX0_clear_2 (fun h1 H locs eh1 hW => ?_)
  have hq := hq h1 eh1
  refine lv_aload_n hx hb dX0_clear_5 rfl (lv_at hl 0 rfl) ?_
  refine gt0_1 C hK hW ho (List.mem_cons_of_mem _ mw104) (fun _ h9 => List.mem_cons_of_mem _ (inU_wsX00 _ h9)) dX0_clear_6 ?_
  refine lv_iconst (v := 0) hx hb dX0_clear_9 (by decide) ?_
  refine lv_iconst (v := 0) hx hb dX0_clear_10 (by decide) ?_
  refine k_iast okC C hK hW (shC_lt (sl0_1 ho).1 (by decide)) (fun g9 => ceC_14 (sl0_1 ho).1 (sl0_1 ho).2) hq.1 dX0_clear_11 (fun H locs hW => ?_)
  have hq := hq.2
  obtain ⟨h2, eh2⟩ : ∃ z : hp, z = sI h1 (o + 1) (ix 0) 0 := ⟨_, rfl⟩
  rw [← eh2] at hW
  have hq := hq h2 eh2
  exact k_vret rfl C hW dX0_clear_12 hq
theorem c_X0_clear (l : Launch) (G : wG) {o : Nat} (ho : shC o = 0) (h : hp) (Q : hp → Prop) (hq : w_X0_clear o h Q) : ctV l SC G yX0_clear wUX0_clear rmX0_clear h [.ref (G.2.2 o)] Q := by
  refine k_start (cc := cX0_clear) (maxL := 1) (rt := none) (own := RX0) (by decide +kernel) rfl rfl (Nat.le_of_ble_eq_true rfl) ?_
  intro p e s m below meth c ls C hK hW hl
  exact k_X0_clear_0 ho C hK hW hl hq
theorem k_X0_sets_0 {o : Nat} (ho : shC o = 0) {Q : Int32 → Prop} {h : hp} (C : kC p s m args meth c cX0_sets 1 (some .int) RX0 wUX0_sets) (hK : kK G s) {H : Heap} {locs : List Loc} {ls : Array Slot} (hW : kW SC G h (aS SC G) s H locs) (hl : lv_has ls 1 [(0, .ref (G.2.2 o))]) (hq : w_X0_sets_0 o Q h) : W p l e rmX0_sets s m args below meth c H locs 0 0 (MQ below (va_Qi (fun r9 h9 => h9 = h ∧ Q r9) (kB SC G) (aS SC G)) args s 0 0 (aS SC G)) (F0 m 0 ls []) := by
  have hx := C.1
  have hb := C.2.1
  unfold w_X0_sets_0 at hq
  refine lv_iconst (v := 1) hx hb dX0_sets_0 (by decide) ?_
  refine lv_aload_n hx hb dX0_sets_1 rfl (lv_at hl 0 rfl) ?_
  refine gt0_0 C hK hW ho (List.mem_cons_of_mem _ mw103) (fun _ h9 => List.mem_cons_of_mem _ (inU_wsX00 _ h9)) dX0_sets_2 ?_
  refine k_ishl hx hb dX0_sets_5 ?_
  exact k_iret rfl C hW dX0_sets_6 ⟨rfl, hq⟩
theorem c_X0_sets (l : Launch) (G : wG) {o : Nat} (ho : shC o = 0) (h : hp) (Q : Int32 → Prop) (hq : w_X0_sets o h Q) : ctI l SC G yX0_sets wUX0_sets rmX0_sets h [.ref (G.2.2 o)] (fun r9 h9 => h9 = h ∧ Q r9) := by
  refine k_start (cc := cX0_sets) (maxL := 1) (rt := (some .int)) (own := RX0) (by decide +kernel) rfl rfl (Nat.le_of_ble_eq_true rfl) ?_
  intro p e s m below meth c ls C hK hW hl
  exact k_X0_sets_0 ho C hK hW hl hq
theorem k_X0_add_b17 {o : Nat} (ho : shC o = 0) {Q : hp → Prop} {X17 : Int32 × hp → Prop} {x1 : Int32} {x2 : Int32} (C : kC p s m args meth c cX0_add 4 none RX0 wUX0_add) (hK : kK G s) (hX17 : ∀ (x3 : Int32) (h : hp) (H : Heap) (locs : List Loc) (ls : Array Slot), kW SC G h (aS SC G) s H locs → lv_has ls 4 [(0, .ref (G.2.2 o)), (1, .int x1), (2, .int x2), (3, .int x3)] → X17 (x3, h) → W p l e rmX0_add s m args below meth c H locs 0 0 (MQ below (va_Qv Q (kB SC G) (aS SC G)) args s 0 0 (aS SC G)) (F0 m 17 ls [])) {x3 : Int32} {h : hp} {H : Heap} {locs : List Loc} {ls : Array Slot} (hW : kW SC G h (aS SC G) s H locs) (hl : lv_has ls 4 [(0, .ref (G.2.2 o)), (1, .int x1), (2, .int x2), (3, .int x3)]) (hq : w_X0_add_b17 o Q x1 x2 X17 x3 h) : W p l e rmX0_add s m args below meth c H locs 0 0 (MQ below (va_Qv Q (kB SC G) (aS SC G)) args s 0 0 (aS SC G)) (F0 m 17 ls []) := by
  have hx := C.1
  have hb := C.2.1
  unfold w_X0_add_b17 at hq
  refine lv_iload_n hx hb dX0_add_17 rfl (lv_at hl 3 rfl) ?_
  refine lv_iload_n hx hb dX0_add_18 rfl (lv_at hl 2 rfl) ?_
  refine lv_icmp_ge (tgt := 44) hx hb dX0_add_19 (by decide) (fun c4 => ?_) (fun c4 => ?_)
  · have hq := hq.1 c4
    refine lv_aload_n hx hb dX0_add_44 rfl (lv_at hl 0 rfl) ?_
    refine lv_dup hx hb dX0_add_45 rfl ?_
    refine gt0_0 C hK hW ho (List.mem_cons_of_mem _ mw103) (fun _ h9 => List.mem_cons_of_mem _ (inU_wsX00 _ h9)) dX0_add_46 ?_
    refine lv_iconst (v := 1) hx hb dX0_add_49 (by decide) ?_
    refine lv_iadd hx hb dX0_add_50 ?_
    refine pt0_0 C hK hW ho (List.mem_cons_of_mem _ mw103) (fun _ h9 => List.mem_cons_of_mem _ (inU_wsX00 _ h9)) dX0_add_51 (fun h5 H locs eh5 hW => ?_)
    have hq := hq h5 eh5
    exact k_vret rfl C hW dX0_add_54 hq
  · have hq := hq.2 c4
    refine lv_aload_n hx hb dX0_add_22 rfl (lv_at hl 0 rfl) ?_
    refine gt0_1 C hK hW ho (List.mem_cons_of_mem _ mw104) (fun _ h9 => List.mem_cons_of_mem _ (inU_wsX00 _ h9)) dX0_add_23 ?_
    refine lv_iload_n hx hb dX0_add_26 rfl (lv_at hl 2 rfl) ?_
    refine lv_iload_n hx hb dX0_add_27 rfl (lv_at hl 3 rfl) ?_
    refine lv_iadd hx hb dX0_add_28 ?_
    refine lv_aload_n hx hb dX0_add_29 rfl (lv_at hl 0 rfl) ?_
    refine gt0_1 C hK hW ho (List.mem_cons_of_mem _ mw104) (fun _ h9 => List.mem_cons_of_mem _ (inU_wsX00 _ h9)) dX0_add_30 ?_
    refine lv_iload_n hx hb dX0_add_33 rfl (lv_at hl 3 rfl) ?_
    refine k_iald C hK hW (shC_lt (sl0_1 ho).1 (by decide)) (ceC_14 (sl0_1 ho).1 (sl0_1 ho).2) hq.1 dX0_add_34 ?_
    have hq := hq.2
    refine lv_iload_n hx hb dX0_add_35 rfl (lv_at hl 1 rfl) ?_
    refine lv_iadd hx hb dX0_add_36 ?_
    refine k_iast okC C hK hW (shC_lt (sl0_1 ho).1 (by decide)) (fun g9 => ceC_14 (sl0_1 ho).1 (sl0_1 ho).2) hq.1 dX0_add_37 (fun H locs hW => ?_)
    have hq := hq.2
    obtain ⟨h6, eh6⟩ : ∃ z : hp, z = sI h (o + 1) (ix (x2 + x3)) ((gI h (o + 1) (ix x3)) + x1) := ⟨_, rfl⟩
    rw [← eh6] at hW
    have hq := hq h6 eh6
    obtain ⟨x3_7, ex3_7⟩ : ∃ y : Int32, y = x3 + 1 := ⟨_, rfl⟩
    have hq := hq x3_7 ex3_7
    refine lv_iinc (v := x3_7) (lv' := [(3, .int x3_7), (0, .ref (G.2.2 o)), (1, .int x1), (2, .int x2)]) hx hb dX0_add_38 hl (k := 3) rfl (by rw [ex3_7]; rfl) (by decide) rfl (fun ls hl => ?_)
    refine lv_goto (tgt := 17) hx hb dX0_add_41 (by decide) ?_
    exact hX17 _ _ _ _ _ hW (lv_sub hl [1, 2, 3, 0] rfl) hq
theorem k_X0_add_17 {o : Nat} (ho : shC o = 0) {Q : hp → Prop} {x1 : Int32} {x2 : Int32} (C : kC p s m args meth c cX0_add 4 none RX0 wUX0_add) (hK : kK G s) {x3 : Int32} {h : hp} {H : Heap} {locs : List Loc} {ls : Array Slot} (hW : kW SC G h (aS SC G) s H locs) (hl : lv_has ls 4 [(0, .ref (G.2.2 o)), (1, .int x1), (2, .int x2), (3, .int x3)]) (hq : w_X0_add_17 o Q x1 x2 x3 h) : W p l e rmX0_add s m args below meth c H locs 0 0 (MQ below (va_Qv Q (kB SC G) (aS SC G)) args s 0 0 (aS SC G)) (F0 m 17 ls []) := by
  have key := hq (fun (q : Int32 × hp) => ∀ (H : Heap) (locs : List Loc) (ls : Array Slot), kW SC G q.2 (aS SC G) s H locs → lv_has ls 4 [(0, .ref (G.2.2 o)), (1, .int x1), (2, .int x2), (3, .int q.1)] → W p l e rmX0_add s m args below meth c H locs 0 0 (MQ below (va_Qv Q (kB SC G) (aS SC G)) args s 0 0 (aS SC G)) (F0 m 17 ls []))
    (fun q hq H locs ls hW hl => k_X0_add_b17 ho C hK (fun x3 h H locs ls hW hl hI => hI H locs ls hW hl) hW hl hq)
  exact key _ _ _ hW hl
theorem k_X0_add_0 {o : Nat} (ho : shC o = 0) {Q : hp → Prop} {x1 : Int32} {h : hp} (C : kC p s m args meth c cX0_add 4 none RX0 wUX0_add) (hK : kK G s) {H : Heap} {locs : List Loc} {ls : Array Slot} (hW : kW SC G h (aS SC G) s H locs) (hl : lv_has ls 4 [(0, .ref (G.2.2 o)), (1, .int x1)]) (hq : w_X0_add_0 o Q x1 h) : W p l e rmX0_add s m args below meth c H locs 0 0 (MQ below (va_Qv Q (kB SC G) (aS SC G)) args s 0 0 (aS SC G)) (F0 m 0 ls []) := by
  have hx := C.1
  have hb := C.2.1
  unfold w_X0_add_0 at hq
  refine lv_aload_n hx hb dX0_add_0 rfl (lv_at hl 0 rfl) ?_
  refine gt0_0 C hK hW ho (List.mem_cons_of_mem _ mw103) (fun _ h9 => List.mem_cons_of_mem _ (inU_wsX00 _ h9)) dX0_add_1 ?_
  refine lv_bipush (v := 9) hx hb dX0_add_4 (by decide) ?_
  refine lv_icmp_lt (tgt := 10) hx hb dX0_add_6 (by decide) (fun c1 => ?_) (fun c1 => ?_)
  · have hq := hq.1 c1
    refine lv_aload_n hx hb dX0_add_10 rfl (lv_at hl 0 rfl) ?_
    refine k_ci hW (va_runV (As := []) (rest := []) (k_fix C) (c_X0_sets l G ho h _ hq) (cwV 0 C.2.2.2.2.2.1 (gU_V mw581 mw582 mw583 mw77 mw584) rfl rfl rfl (by decide +kernel) ⟨Nat.le_of_ble_eq_true rfl, Nat.le_of_ble_eq_true rfl⟩) (k_preV hK hW (shC_lt ho (by decide)) (ceC_0 ho) (q := (RX0, TX0, 3)) rfl) rfl rfl hl.1 rfl (lv_room (Nat.le_of_ble_eq_true rfl)) dX0_add_11 ⟨Nat.le_refl 0, Nat.le_refl 0⟩) (fun r2 h3 H locs hq hW => ?_)
    rw [hq.1] at hW
    have hq := hq.2
    refine lv_istore_n (lv' := [(2, .int r2), (0, .ref (G.2.2 o)), (1, .int x1)]) hx hb dX0_add_14 rfl hl (by decide) rfl (fun ls hl => ?_)
    refine lv_iconst (v := 0) hx hb dX0_add_15 (by decide) ?_
    refine lv_istore_n (lv' := [(3, .int 0), (2, .int r2), (0, .ref (G.2.2 o)), (1, .int x1)]) hx hb dX0_add_16 rfl hl (by decide) rfl (fun ls hl => ?_)
    exact k_X0_add_17 ho C hK hW (lv_sub hl [2, 3, 1, 0] rfl) hq
  · have hq := hq.2 c1
    exact k_vret rfl C hW dX0_add_9 hq
theorem c_X0_add (l : Launch) (G : wG) {o : Nat} (ho : shC o = 0) (h : hp) (x1 : Int32) (Q : hp → Prop) (hq : w_X0_add o h x1 Q) : ctV l SC G yX0_add wUX0_add rmX0_add h [.ref (G.2.2 o), .int x1] Q := by
  refine k_start (cc := cX0_add) (maxL := 4) (rt := none) (own := RX0) (by decide +kernel) rfl rfl (Nat.le_of_ble_eq_true rfl) ?_
  intro p e s m below meth c ls C hK hW hl
  exact k_X0_add_0 ho C hK hW hl hq
theorem k_X0_setsOff_b5 {o : Nat} (ho : shC o = 0) {Q : Int32 → Prop} {X5 : Int32 × Int32 → Prop} {x1 : Int32} {x2 : Int32} {h : hp} (C : kC p s m args meth c cX0_setsOff 5 (some .int) RX0 wUX0_setsOff) (hK : kK G s) (hX5 : ∀ (x3 : Int32) (x4 : Int32) (H : Heap) (locs : List Loc) (ls : Array Slot), kW SC G h (aS SC G) s H locs → lv_has ls 5 [(0, .ref (G.2.2 o)), (1, .int x1), (2, .int x2), (3, .int x3), (4, .int x4)] → X5 (x3, x4) → W p l e rmX0_setsOff s m args below meth c H locs 0 0 (MQ below (va_Qi (fun r9 h9 => h9 = h ∧ Q r9) (kB SC G) (aS SC G)) args s 0 0 (aS SC G)) (F0 m 5 ls [])) {x3 : Int32} {x4 : Int32} {H : Heap} {locs : List Loc} {ls : Array Slot} (hW : kW SC G h (aS SC G) s H locs) (hl : lv_has ls 5 [(0, .ref (G.2.2 o)), (1, .int x1), (2, .int x2), (3, .int x3), (4, .int x4)]) (hq : w_X0_setsOff_b5 o Q x1 x2 h X5 x3 x4) : W p l e rmX0_setsOff s m args below meth c H locs 0 0 (MQ below (va_Qi (fun r9 h9 => h9 = h ∧ Q r9) (kB SC G) (aS SC G)) args s 0 0 (aS SC G)) (F0 m 5 ls []) := by
  have hx := C.1
  have hb := C.2.1
  unfold w_X0_setsOff_b5 at hq
  refine lv_iload hx hb dX0_setsOff_5 (lv_at hl 4 rfl) ?_
  refine lv_aload_n hx hb dX0_setsOff_7 rfl (lv_at hl 0 rfl) ?_
  refine k_ci hW (va_runV (As := []) (rest := [.int x4]) (k_fix C) (c_X0_sets l G ho h _ hq) (cwV 0 C.2.2.2.2.2.1 (gU_V mw581 mw582 mw583 mw77 mw584) rfl rfl rfl (by decide +kernel) ⟨Nat.le_of_ble_eq_true rfl, Nat.le_of_ble_eq_true rfl⟩) (k_preV hK hW (shC_lt ho (by decide)) (ceC_0 ho) (q := (RX0, TX0, 3)) rfl) rfl rfl hl.1 rfl (lv_room (Nat.le_of_ble_eq_true rfl)) dX0_setsOff_8 ⟨Nat.le_refl 0, Nat.le_refl 0⟩) (fun r1 h2 H locs hq hW => ?_)
  rw [hq.1] at hW
  have hq := hq.2
  refine lv_icmp_ge (tgt := 36) hx hb dX0_setsOff_11 (by decide) (fun c3 => ?_) (fun c3 => ?_)
  · have hq := hq.1 c3
    refine lv_iload_n hx hb dX0_setsOff_36 rfl (lv_at hl 3 rfl) ?_
    exact k_iret rfl C hW dX0_setsOff_37 ⟨rfl, hq⟩
  · have hq := hq.2 c3
    refine lv_aload_n hx hb dX0_setsOff_14 rfl (lv_at hl 0 rfl) ?_
    refine gt0_1 C hK hW ho (List.mem_cons_of_mem _ mw104) (fun _ h9 => List.mem_cons_of_mem _ (inU_wsX00 _ h9)) dX0_setsOff_15 ?_
    refine lv_iload hx hb dX0_setsOff_18 (lv_at hl 4 rfl) ?_
    refine k_iald C hK hW (shC_lt (sl0_1 ho).1 (by decide)) (ceC_14 (sl0_1 ho).1 (sl0_1 ho).2) hq.1 dX0_setsOff_20 ?_
    have hq := hq.2
    refine lv_iload_n hx hb dX0_setsOff_21 rfl (lv_at hl 2 rfl) ?_
    refine lv_imul hx hb dX0_setsOff_22 ?_
    refine lv_iload_n hx hb dX0_setsOff_23 rfl (lv_at hl 1 rfl) ?_
    refine lv_icmp_ne (tgt := 30) hx hb dX0_setsOff_24 (by decide) (fun c4 => ?_) (fun c4 => ?_)
    · have hq := hq.1 c4
      obtain ⟨x4_5, ex4_5⟩ : ∃ y : Int32, y = x4 + 1 := ⟨_, rfl⟩
      have hq := hq x4_5 ex4_5
      refine lv_iinc (v := x4_5) (lv' := [(4, .int x4_5), (0, .ref (G.2.2 o)), (1, .int x1), (2, .int x2), (3, .int x3)]) hx hb dX0_setsOff_30 hl (k := 4) rfl (by rw [ex4_5]; rfl) (by decide) rfl (fun ls hl => ?_)
      refine lv_goto (tgt := 5) hx hb dX0_setsOff_33 (by decide) ?_
      exact hX5 _ _ _ _ _ hW (lv_sub hl [1, 2, 3, 4, 0] rfl) hq
    · have hq := hq.2 c4
      obtain ⟨x3_6, ex3_6⟩ : ∃ y : Int32, y = x3 + 1 := ⟨_, rfl⟩
      have hq := hq x3_6 ex3_6
      refine lv_iinc (v := x3_6) (lv' := [(3, .int x3_6), (0, .ref (G.2.2 o)), (1, .int x1), (2, .int x2), (4, .int x4)]) hx hb dX0_setsOff_27 hl (k := 3) rfl (by rw [ex3_6]; rfl) (by decide) rfl (fun ls hl => ?_)
      obtain ⟨x4_7, ex4_7⟩ : ∃ y : Int32, y = x4 + 1 := ⟨_, rfl⟩
      have hq := hq x4_7 ex4_7
      refine lv_iinc (v := x4_7) (lv' := [(4, .int x4_7), (3, .int x3_6), (0, .ref (G.2.2 o)), (1, .int x1), (2, .int x2)]) hx hb dX0_setsOff_30 hl (k := 4) rfl (by rw [ex4_7]; rfl) (by decide) rfl (fun ls hl => ?_)
      refine lv_goto (tgt := 5) hx hb dX0_setsOff_33 (by decide) ?_
      exact hX5 _ _ _ _ _ hW (lv_sub hl [2, 3, 4, 1, 0] rfl) hq
theorem k_X0_setsOff_5 {o : Nat} (ho : shC o = 0) {Q : Int32 → Prop} {x1 : Int32} {x2 : Int32} {h : hp} (C : kC p s m args meth c cX0_setsOff 5 (some .int) RX0 wUX0_setsOff) (hK : kK G s) {x3 : Int32} {x4 : Int32} {H : Heap} {locs : List Loc} {ls : Array Slot} (hW : kW SC G h (aS SC G) s H locs) (hl : lv_has ls 5 [(0, .ref (G.2.2 o)), (1, .int x1), (2, .int x2), (3, .int x3), (4, .int x4)]) (hq : w_X0_setsOff_5 o Q x1 x2 h x3 x4) : W p l e rmX0_setsOff s m args below meth c H locs 0 0 (MQ below (va_Qi (fun r9 h9 => h9 = h ∧ Q r9) (kB SC G) (aS SC G)) args s 0 0 (aS SC G)) (F0 m 5 ls []) := by
  have key := hq (fun (q : Int32 × Int32) => ∀ (H : Heap) (locs : List Loc) (ls : Array Slot), kW SC G h (aS SC G) s H locs → lv_has ls 5 [(0, .ref (G.2.2 o)), (1, .int x1), (2, .int x2), (3, .int q.1), (4, .int q.2)] → W p l e rmX0_setsOff s m args below meth c H locs 0 0 (MQ below (va_Qi (fun r9 h9 => h9 = h ∧ Q r9) (kB SC G) (aS SC G)) args s 0 0 (aS SC G)) (F0 m 5 ls []))
    (fun q hq H locs ls hW hl => k_X0_setsOff_b5 ho C hK (fun x3 x4 H locs ls hW hl hI => hI H locs ls hW hl) hW hl hq)
  exact key _ _ _ hW hl
theorem k_X0_setsOff_0 {o : Nat} (ho : shC o = 0) {Q : Int32 → Prop} {x1 : Int32} {x2 : Int32} {h : hp} (C : kC p s m args meth c cX0_setsOff 5 (some .int) RX0 wUX0_setsOff) (hK : kK G s) {H : Heap} {locs : List Loc} {ls : Array Slot} (hW : kW SC G h (aS SC G) s H locs) (hl : lv_has ls 5 [(0, .ref (G.2.2 o)), (1, .int x1), (2, .int x2)]) (hq : w_X0_setsOff_0 o Q x1 x2 h) : W p l e rmX0_setsOff s m args below meth c H locs 0 0 (MQ below (va_Qi (fun r9 h9 => h9 = h ∧ Q r9) (kB SC G) (aS SC G)) args s 0 0 (aS SC G)) (F0 m 0 ls []) := by
  have hx := C.1
  have hb := C.2.1
  unfold w_X0_setsOff_0 at hq
  refine lv_iconst (v := 0) hx hb dX0_setsOff_0 (by decide) ?_
  refine lv_istore_n (lv' := [(3, .int 0), (0, .ref (G.2.2 o)), (1, .int x1), (2, .int x2)]) hx hb dX0_setsOff_1 rfl hl (by decide) rfl (fun ls hl => ?_)
  refine lv_iconst (v := 0) hx hb dX0_setsOff_2 (by decide) ?_
  refine lv_istore (lv' := [(4, .int 0), (3, .int 0), (0, .ref (G.2.2 o)), (1, .int x1), (2, .int x2)]) hx hb dX0_setsOff_3 hl (by decide) rfl (fun ls hl => ?_)
  exact k_X0_setsOff_5 ho C hK hW (lv_sub hl [2, 3, 4, 1, 0] rfl) hq
theorem c_X0_setsOff (l : Launch) (G : wG) {o : Nat} (ho : shC o = 0) (h : hp) (x1 : Int32) (x2 : Int32) (Q : Int32 → Prop) (hq : w_X0_setsOff o h x1 x2 Q) : ctI l SC G yX0_setsOff wUX0_setsOff rmX0_setsOff h [.ref (G.2.2 o), .int x1, .int x2] (fun r9 h9 => h9 = h ∧ Q r9) := by
  refine k_start (cc := cX0_setsOff) (maxL := 5) (rt := (some .int)) (own := RX0) (by decide +kernel) rfl rfl (Nat.le_of_ble_eq_true rfl) ?_
  intro p e s m below meth c ls C hK hW hl
  exact k_X0_setsOff_0 ho C hK hW hl hq
theorem k_X0_leastSetOff_b2 {o : Nat} (ho : shC o = 0) {Q : Int32 → Prop} {X2 : Int32 → Prop} {x1 : Int32} {x2 : Int32} {h : hp} (C : kC p s m args meth c cX0_leastSetOff 4 (some .int) RX0 wUX0_leastSetOff) (hK : kK G s) (hX2 : ∀ (x3 : Int32) (H : Heap) (locs : List Loc) (ls : Array Slot), kW SC G h (aS SC G) s H locs → lv_has ls 4 [(0, .ref (G.2.2 o)), (1, .int x1), (2, .int x2), (3, .int x3)] → X2 x3 → W p l e rmX0_leastSetOff s m args below meth c H locs 0 0 (MQ below (va_Qi (fun r9 h9 => h9 = h ∧ Q r9) (kB SC G) (aS SC G)) args s 0 0 (aS SC G)) (F0 m 2 ls [])) {x3 : Int32} {H : Heap} {locs : List Loc} {ls : Array Slot} (hW : kW SC G h (aS SC G) s H locs) (hl : lv_has ls 4 [(0, .ref (G.2.2 o)), (1, .int x1), (2, .int x2), (3, .int x3)]) (hq : w_X0_leastSetOff_b2 o Q x1 x2 h X2 x3) : W p l e rmX0_leastSetOff s m args below meth c H locs 0 0 (MQ below (va_Qi (fun r9 h9 => h9 = h ∧ Q r9) (kB SC G) (aS SC G)) args s 0 0 (aS SC G)) (F0 m 2 ls []) := by
  have hx := C.1
  have hb := C.2.1
  unfold w_X0_leastSetOff_b2 at hq
  refine lv_iload_n hx hb dX0_leastSetOff_2 rfl (lv_at hl 3 rfl) ?_
  refine lv_aload_n hx hb dX0_leastSetOff_3 rfl (lv_at hl 0 rfl) ?_
  refine k_ci hW (va_runV (As := []) (rest := [.int x3]) (k_fix C) (c_X0_sets l G ho h _ hq) (cwV 0 C.2.2.2.2.2.1 (gU_V mw581 mw582 mw583 mw77 mw584) rfl rfl rfl (by decide +kernel) ⟨Nat.le_of_ble_eq_true rfl, Nat.le_of_ble_eq_true rfl⟩) (k_preV hK hW (shC_lt ho (by decide)) (ceC_0 ho) (q := (RX0, TX0, 3)) rfl) rfl rfl hl.1 rfl (lv_room (Nat.le_of_ble_eq_true rfl)) dX0_leastSetOff_4 ⟨Nat.le_refl 0, Nat.le_refl 0⟩) (fun r1 h2 H locs hq hW => ?_)
  rw [hq.1] at hW
  have hq := hq.2
  refine lv_icmp_ge (tgt := 30) hx hb dX0_leastSetOff_7 (by decide) (fun c3 => ?_) (fun c3 => ?_)
  · have hq := hq.1 c3
    refine lv_bipush (v := (-2)) hx hb dX0_leastSetOff_30 (by decide) ?_
    exact k_iret rfl C hW dX0_leastSetOff_32 ⟨rfl, hq⟩
  · have hq := hq.2 c3
    refine lv_aload_n hx hb dX0_leastSetOff_10 rfl (lv_at hl 0 rfl) ?_
    refine gt0_1 C hK hW ho (List.mem_cons_of_mem _ mw104) (fun _ h9 => List.mem_cons_of_mem _ (inU_wsX00 _ h9)) dX0_leastSetOff_11 ?_
    refine lv_iload_n hx hb dX0_leastSetOff_14 rfl (lv_at hl 3 rfl) ?_
    refine k_iald C hK hW (shC_lt (sl0_1 ho).1 (by decide)) (ceC_14 (sl0_1 ho).1 (sl0_1 ho).2) hq.1 dX0_leastSetOff_15 ?_
    have hq := hq.2
    refine lv_iload_n hx hb dX0_leastSetOff_16 rfl (lv_at hl 2 rfl) ?_
    refine lv_imul hx hb dX0_leastSetOff_17 ?_
    refine lv_iload_n hx hb dX0_leastSetOff_18 rfl (lv_at hl 1 rfl) ?_
    refine lv_icmp_ne (tgt := 24) hx hb dX0_leastSetOff_19 (by decide) (fun c4 => ?_) (fun c4 => ?_)
    · have hq := hq.1 c4
      obtain ⟨x3_5, ex3_5⟩ : ∃ y : Int32, y = x3 + 1 := ⟨_, rfl⟩
      have hq := hq x3_5 ex3_5
      refine lv_iinc (v := x3_5) (lv' := [(3, .int x3_5), (0, .ref (G.2.2 o)), (1, .int x1), (2, .int x2)]) hx hb dX0_leastSetOff_24 hl (k := 3) rfl (by rw [ex3_5]; rfl) (by decide) rfl (fun ls hl => ?_)
      refine lv_goto (tgt := 2) hx hb dX0_leastSetOff_27 (by decide) ?_
      exact hX2 _ _ _ _ hW (lv_sub hl [1, 2, 3, 0] rfl) hq
    · have hq := hq.2 c4
      refine lv_iload_n hx hb dX0_leastSetOff_22 rfl (lv_at hl 3 rfl) ?_
      exact k_iret rfl C hW dX0_leastSetOff_23 ⟨rfl, hq⟩
theorem k_X0_leastSetOff_2 {o : Nat} (ho : shC o = 0) {Q : Int32 → Prop} {x1 : Int32} {x2 : Int32} {h : hp} (C : kC p s m args meth c cX0_leastSetOff 4 (some .int) RX0 wUX0_leastSetOff) (hK : kK G s) {x3 : Int32} {H : Heap} {locs : List Loc} {ls : Array Slot} (hW : kW SC G h (aS SC G) s H locs) (hl : lv_has ls 4 [(0, .ref (G.2.2 o)), (1, .int x1), (2, .int x2), (3, .int x3)]) (hq : w_X0_leastSetOff_2 o Q x1 x2 h x3) : W p l e rmX0_leastSetOff s m args below meth c H locs 0 0 (MQ below (va_Qi (fun r9 h9 => h9 = h ∧ Q r9) (kB SC G) (aS SC G)) args s 0 0 (aS SC G)) (F0 m 2 ls []) := by
  have key := hq (fun (q : Int32) => ∀ (H : Heap) (locs : List Loc) (ls : Array Slot), kW SC G h (aS SC G) s H locs → lv_has ls 4 [(0, .ref (G.2.2 o)), (1, .int x1), (2, .int x2), (3, .int q)] → W p l e rmX0_leastSetOff s m args below meth c H locs 0 0 (MQ below (va_Qi (fun r9 h9 => h9 = h ∧ Q r9) (kB SC G) (aS SC G)) args s 0 0 (aS SC G)) (F0 m 2 ls []))
    (fun q hq H locs ls hW hl => k_X0_leastSetOff_b2 ho C hK (fun x3 H locs ls hW hl hI => hI H locs ls hW hl) hW hl hq)
  exact key _ _ _ hW hl
theorem k_X0_leastSetOff_0 {o : Nat} (ho : shC o = 0) {Q : Int32 → Prop} {x1 : Int32} {x2 : Int32} {h : hp} (C : kC p s m args meth c cX0_leastSetOff 4 (some .int) RX0 wUX0_leastSetOff) (hK : kK G s) {H : Heap} {locs : List Loc} {ls : Array Slot} (hW : kW SC G h (aS SC G) s H locs) (hl : lv_has ls 4 [(0, .ref (G.2.2 o)), (1, .int x1), (2, .int x2)]) (hq : w_X0_leastSetOff_0 o Q x1 x2 h) : W p l e rmX0_leastSetOff s m args below meth c H locs 0 0 (MQ below (va_Qi (fun r9 h9 => h9 = h ∧ Q r9) (kB SC G) (aS SC G)) args s 0 0 (aS SC G)) (F0 m 0 ls []) := by
  have hx := C.1
  have hb := C.2.1
  unfold w_X0_leastSetOff_0 at hq
  refine lv_iconst (v := 0) hx hb dX0_leastSetOff_0 (by decide) ?_
  refine lv_istore_n (lv' := [(3, .int 0), (0, .ref (G.2.2 o)), (1, .int x1), (2, .int x2)]) hx hb dX0_leastSetOff_1 rfl hl (by decide) rfl (fun ls hl => ?_)
  exact k_X0_leastSetOff_2 ho C hK hW (lv_sub hl [1, 2, 3, 0] rfl) hq
theorem c_X0_leastSetOff (l : Launch) (G : wG) {o : Nat} (ho : shC o = 0) (h : hp) (x1 : Int32) (x2 : Int32) (Q : Int32 → Prop) (hq : w_X0_leastSetOff o h x1 x2 Q) : ctI l SC G yX0_leastSetOff wUX0_leastSetOff rmX0_leastSetOff h [.ref (G.2.2 o), .int x1, .int x2] (fun r9 h9 => h9 = h ∧ Q r9) := by
  refine k_start (cc := cX0_leastSetOff) (maxL := 4) (rt := (some .int)) (own := RX0) (by decide +kernel) rfl rfl (Nat.le_of_ble_eq_true rfl) ?_
  intro p e s m below meth c ls C hK hW hl
  exact k_X0_leastSetOff_0 ho C hK hW hl hq
theorem k_X0_leastBetweenMarks_b10 {o : Nat} (ho : shC o = 0) {Q : Int32 → Prop} {X10 : Int32 × Int32 × Int32 → Prop} {h : hp} (C : kC p s m args meth c cX0_leastBetweenMarks 4 (some .int) RX0 wUX0_leastBetweenMarks) (hK : kK G s) (hX10 : ∀ (x1 : Int32) (x2 : Int32) (x3 : Int32) (H : Heap) (locs : List Loc) (ls : Array Slot), kW SC G h (aS SC G) s H locs → lv_has ls 4 [(0, .ref (G.2.2 o)), (1, .int x1), (2, .int x2), (3, .int x3)] → X10 (x1, x2, x3) → W p l e rmX0_leastBetweenMarks s m args below meth c H locs 0 0 (MQ below (va_Qi (fun r9 h9 => h9 = h ∧ Q r9) (kB SC G) (aS SC G)) args s 0 0 (aS SC G)) (F0 m 10 ls [])) {x1 : Int32} {x2 : Int32} {x3 : Int32} {H : Heap} {locs : List Loc} {ls : Array Slot} (hW : kW SC G h (aS SC G) s H locs) (hl : lv_has ls 4 [(0, .ref (G.2.2 o)), (1, .int x1), (2, .int x2), (3, .int x3)]) (hq : w_X0_leastBetweenMarks_b10 o Q h X10 x1 x2 x3) : W p l e rmX0_leastBetweenMarks s m args below meth c H locs 0 0 (MQ below (va_Qi (fun r9 h9 => h9 = h ∧ Q r9) (kB SC G) (aS SC G)) args s 0 0 (aS SC G)) (F0 m 10 ls []) := by
  have hx := C.1
  have hb := C.2.1
  unfold w_X0_leastBetweenMarks_b10 at hq
  refine lv_iload_n hx hb dX0_leastBetweenMarks_10 rfl (lv_at hl 3 rfl) ?_
  refine lv_aload_n hx hb dX0_leastBetweenMarks_11 rfl (lv_at hl 0 rfl) ?_
  refine gt0_2 C hK hW ho (List.mem_cons_of_mem _ mw105) (fun _ h9 => List.mem_cons_of_mem _ (inU_wsX00 _ h9)) dX0_leastBetweenMarks_12 ?_
  refine k_alen C hK hW (shC_lt (sl0_2 ho).1 (by decide)) (t0 := 0) rfl (ceC_13 (sl0_2 ho).1 (sl0_2 ho).2) (v := 8992) (by first | rfl | decide) dX0_leastBetweenMarks_15 ?_
  refine lv_icmp_ge (tgt := 44) hx hb dX0_leastBetweenMarks_16 (by decide) (fun c1 => ?_) (fun c1 => ?_)
  · have hq := hq.1 c1
    refine lv_iload_n hx hb dX0_leastBetweenMarks_44 rfl (lv_at hl 1 rfl) ?_
    exact k_iret rfl C hW dX0_leastBetweenMarks_45 ⟨rfl, hq⟩
  · have hq := hq.2 c1
    refine lv_aload_n hx hb dX0_leastBetweenMarks_19 rfl (lv_at hl 0 rfl) ?_
    refine gt0_2 C hK hW ho (List.mem_cons_of_mem _ mw105) (fun _ h9 => List.mem_cons_of_mem _ (inU_wsX00 _ h9)) dX0_leastBetweenMarks_20 ?_
    refine lv_iload_n hx hb dX0_leastBetweenMarks_23 rfl (lv_at hl 3 rfl) ?_
    refine k_bald C hK hW (shC_lt (sl0_2 ho).1 (by decide)) (ceC_13 (sl0_2 ho).1 (sl0_2 ho).2) hq.1 dX0_leastBetweenMarks_24 ?_
    have hq := hq.2
    refine lv_if_eq (tgt := 38) hx hb dX0_leastBetweenMarks_25 (by decide) (fun c2 => ?_) (fun c2 => ?_)
    · have hq := hq.1 c2
      obtain ⟨x3_3, ex3_3⟩ : ∃ y : Int32, y = x3 + 1 := ⟨_, rfl⟩
      have hq := hq x3_3 ex3_3
      refine lv_iinc (v := x3_3) (lv' := [(3, .int x3_3), (0, .ref (G.2.2 o)), (1, .int x1), (2, .int x2)]) hx hb dX0_leastBetweenMarks_38 hl (k := 3) rfl (by rw [ex3_3]; rfl) (by decide) rfl (fun ls hl => ?_)
      refine lv_goto (tgt := 10) hx hb dX0_leastBetweenMarks_41 (by decide) ?_
      exact hX10 _ _ _ _ _ _ hW (lv_sub hl [1, 2, 3, 0] rfl) hq
    · have hq := hq.2 c2
      refine lv_iload_n hx hb dX0_leastBetweenMarks_28 rfl (lv_at hl 1 rfl) ?_
      refine lv_iload_n hx hb dX0_leastBetweenMarks_29 rfl (lv_at hl 3 rfl) ?_
      refine lv_iload_n hx hb dX0_leastBetweenMarks_30 rfl (lv_at hl 2 rfl) ?_
      refine lv_isub hx hb dX0_leastBetweenMarks_31 ?_
      refine va_mmin hx hb (C.2.2.2.1.trans hl.1.symm) C.2.2.2.2.1 (C.2.2.2.2.2.1 _ (List.mem_cons_of_mem _ mw1211)) (C.2.2.2.2.2.1 _ (List.mem_cons_of_mem _ mw509)) (C.2.2.2.2.2.1 _ (List.mem_cons_of_mem _ mw510)) (C.2.2.2.2.2.1 _ (List.mem_cons_of_mem _ mw511)) (Nat.le_of_ble_eq_true rfl) (Nat.le_of_ble_eq_true rfl) (Nat.le_refl 0) (Nat.le_refl 0) dX0_leastBetweenMarks_32 ?_
      refine lv_topi (fun x1_4 ex1_4 => ?_)
      have hq := hq x1_4 ex1_4
      refine lv_istore_n (lv' := [(1, .int x1_4), (0, .ref (G.2.2 o)), (2, .int x2), (3, .int x3)]) hx hb dX0_leastBetweenMarks_35 rfl hl (by decide) rfl (fun ls hl => ?_)
      refine lv_iload_n hx hb dX0_leastBetweenMarks_36 rfl (lv_at hl 3 rfl) ?_
      refine lv_istore_n (lv' := [(2, .int x3), (1, .int x1_4), (0, .ref (G.2.2 o)), (3, .int x3)]) hx hb dX0_leastBetweenMarks_37 rfl hl (by decide) rfl (fun ls hl => ?_)
      obtain ⟨x3_5, ex3_5⟩ : ∃ y : Int32, y = x3 + 1 := ⟨_, rfl⟩
      have hq := hq x3_5 ex3_5
      refine lv_iinc (v := x3_5) (lv' := [(3, .int x3_5), (2, .int x3), (1, .int x1_4), (0, .ref (G.2.2 o))]) hx hb dX0_leastBetweenMarks_38 hl (k := 3) rfl (by rw [ex3_5]; rfl) (by decide) rfl (fun ls hl => ?_)
      refine lv_goto (tgt := 10) hx hb dX0_leastBetweenMarks_41 (by decide) ?_
      exact hX10 _ _ _ _ _ _ hW (lv_sub hl [3, 2, 1, 0] rfl) hq
theorem k_X0_leastBetweenMarks_10 {o : Nat} (ho : shC o = 0) {Q : Int32 → Prop} {h : hp} (C : kC p s m args meth c cX0_leastBetweenMarks 4 (some .int) RX0 wUX0_leastBetweenMarks) (hK : kK G s) {x1 : Int32} {x2 : Int32} {x3 : Int32} {H : Heap} {locs : List Loc} {ls : Array Slot} (hW : kW SC G h (aS SC G) s H locs) (hl : lv_has ls 4 [(0, .ref (G.2.2 o)), (1, .int x1), (2, .int x2), (3, .int x3)]) (hq : w_X0_leastBetweenMarks_10 o Q h x1 x2 x3) : W p l e rmX0_leastBetweenMarks s m args below meth c H locs 0 0 (MQ below (va_Qi (fun r9 h9 => h9 = h ∧ Q r9) (kB SC G) (aS SC G)) args s 0 0 (aS SC G)) (F0 m 10 ls []) := by
  have key := hq (fun (q : Int32 × Int32 × Int32) => ∀ (H : Heap) (locs : List Loc) (ls : Array Slot), kW SC G h (aS SC G) s H locs → lv_has ls 4 [(0, .ref (G.2.2 o)), (1, .int q.1), (2, .int q.2.1), (3, .int q.2.2)] → W p l e rmX0_leastBetweenMarks s m args below meth c H locs 0 0 (MQ below (va_Qi (fun r9 h9 => h9 = h ∧ Q r9) (kB SC G) (aS SC G)) args s 0 0 (aS SC G)) (F0 m 10 ls []))
    (fun q hq H locs ls hW hl => k_X0_leastBetweenMarks_b10 ho C hK (fun x1 x2 x3 H locs ls hW hl hI => hI H locs ls hW hl) hW hl hq)
  exact key _ _ _ hW hl
theorem k_X0_leastBetweenMarks_0 {o : Nat} (ho : shC o = 0) {Q : Int32 → Prop} {h : hp} (C : kC p s m args meth c cX0_leastBetweenMarks 4 (some .int) RX0 wUX0_leastBetweenMarks) (hK : kK G s) {H : Heap} {locs : List Loc} {ls : Array Slot} (hW : kW SC G h (aS SC G) s H locs) (hl : lv_has ls 4 [(0, .ref (G.2.2 o))]) (hq : w_X0_leastBetweenMarks_0 o Q h) : W p l e rmX0_leastBetweenMarks s m args below meth c H locs 0 0 (MQ below (va_Qi (fun r9 h9 => h9 = h ∧ Q r9) (kB SC G) (aS SC G)) args s 0 0 (aS SC G)) (F0 m 0 ls []) := by
  have hx := C.1
  have hb := C.2.1
  unfold w_X0_leastBetweenMarks_0 at hq
  refine lv_aload_n hx hb dX0_leastBetweenMarks_0 rfl (lv_at hl 0 rfl) ?_
  refine gt0_2 C hK hW ho (List.mem_cons_of_mem _ mw105) (fun _ h9 => List.mem_cons_of_mem _ (inU_wsX00 _ h9)) dX0_leastBetweenMarks_1 ?_
  refine k_alen C hK hW (shC_lt (sl0_2 ho).1 (by decide)) (t0 := 0) rfl (ceC_13 (sl0_2 ho).1 (sl0_2 ho).2) (v := 8992) (by first | rfl | decide) dX0_leastBetweenMarks_4 ?_
  refine lv_istore_n (lv' := [(1, .int 8992), (0, .ref (G.2.2 o))]) hx hb dX0_leastBetweenMarks_5 rfl hl (by decide) rfl (fun ls hl => ?_)
  refine lv_iconst (v := 0) hx hb dX0_leastBetweenMarks_6 (by decide) ?_
  refine lv_istore_n (lv' := [(2, .int 0), (1, .int 8992), (0, .ref (G.2.2 o))]) hx hb dX0_leastBetweenMarks_7 rfl hl (by decide) rfl (fun ls hl => ?_)
  refine lv_iconst (v := 1) hx hb dX0_leastBetweenMarks_8 (by decide) ?_
  refine lv_istore_n (lv' := [(3, .int 1), (2, .int 0), (1, .int 8992), (0, .ref (G.2.2 o))]) hx hb dX0_leastBetweenMarks_9 rfl hl (by decide) rfl (fun ls hl => ?_)
  exact k_X0_leastBetweenMarks_10 ho C hK hW (lv_sub hl [3, 2, 1, 0] rfl) hq
theorem c_X0_leastBetweenMarks (l : Launch) (G : wG) {o : Nat} (ho : shC o = 0) (h : hp) (Q : Int32 → Prop) (hq : w_X0_leastBetweenMarks o h Q) : ctI l SC G yX0_leastBetweenMarks wUX0_leastBetweenMarks rmX0_leastBetweenMarks h [.ref (G.2.2 o)] (fun r9 h9 => h9 = h ∧ Q r9) := by
  refine k_start (cc := cX0_leastBetweenMarks) (maxL := 4) (rt := (some .int)) (own := RX0) (by decide +kernel) rfl rfl (Nat.le_of_ble_eq_true rfl) ?_
  intro p e s m below meth c ls C hK hW hl
  exact k_X0_leastBetweenMarks_0 ho C hK hW hl hq
theorem k_X0_leastGap_b20 {o : Nat} (ho : shC o = 0) {Q : Int32 → hp → Prop} {X20 : Int32 × hp → Prop} (C : kC p s m args meth c cX0_leastGap 3 (some .int) RX0 wUX0_leastGap) (hK : kK G s) (hX20 : ∀ (x1 : Int32) (h : hp) (H : Heap) (locs : List Loc) (ls : Array Slot), kW SC G h (aS SC G) s H locs → lv_has ls 3 [(0, .ref (G.2.2 o)), (1, .int x1)] → X20 (x1, h) → W p l e rmX0_leastGap s m args below meth c H locs 0 0 (MQ below (va_Qi Q (kB SC G) (aS SC G)) args s 0 0 (aS SC G)) (F0 m 20 ls [])) {x1 : Int32} {h : hp} {H : Heap} {locs : List Loc} {ls : Array Slot} (hW : kW SC G h (aS SC G) s H locs) (hl : lv_has ls 3 [(0, .ref (G.2.2 o)), (1, .int x1)]) (hq : w_X0_leastGap_b20 o Q X20 x1 h) : W p l e rmX0_leastGap s m args below meth c H locs 0 0 (MQ below (va_Qi Q (kB SC G) (aS SC G)) args s 0 0 (aS SC G)) (F0 m 20 ls []) := by
  have hx := C.1
  have hb := C.2.1
  unfold w_X0_leastGap_b20 at hq
  refine lv_iload_n hx hb dX0_leastGap_20 rfl (lv_at hl 1 rfl) ?_
  refine lv_aload_n hx hb dX0_leastGap_21 rfl (lv_at hl 0 rfl) ?_
  refine k_ci hW (va_runV (As := []) (rest := [.int x1]) (k_fix C) (c_X0_sets l G ho h _ hq) (cwV 0 C.2.2.2.2.2.1 (gU_V mw581 mw582 mw583 mw77 mw584) rfl rfl rfl (by decide +kernel) ⟨Nat.le_of_ble_eq_true rfl, Nat.le_of_ble_eq_true rfl⟩) (k_preV hK hW (shC_lt ho (by decide)) (ceC_0 ho) (q := (RX0, TX0, 3)) rfl) rfl rfl hl.1 rfl (lv_room (Nat.le_of_ble_eq_true rfl)) dX0_leastGap_22 ⟨Nat.le_refl 0, Nat.le_refl 0⟩) (fun r3 h4 H locs hq hW => ?_)
  rw [hq.1] at hW
  have hq := hq.2
  refine lv_icmp_ge (tgt := 68) hx hb dX0_leastGap_25 (by decide) (fun c5 => ?_) (fun c5 => ?_)
  · have hq := hq.1 c5
    refine lv_aload_n hx hb dX0_leastGap_68 rfl (lv_at hl 0 rfl) ?_
    refine k_ci hW (va_runV (As := []) (rest := []) (k_fix C) (c_X0_leastBetweenMarks l G ho h _ hq) (cwV 0 C.2.2.2.2.2.1 (gU_V mw1207 mw1208 mw1209 mw77 mw1210) rfl rfl rfl (by decide +kernel) ⟨Nat.le_of_ble_eq_true rfl, Nat.le_of_ble_eq_true rfl⟩) (k_preV hK hW (shC_lt ho (by decide)) (ceC_0 ho) (q := (RX0, TX0, 3)) rfl) rfl rfl hl.1 rfl (lv_room (Nat.le_of_ble_eq_true rfl)) dX0_leastGap_69 ⟨Nat.le_refl 0, Nat.le_refl 0⟩) (fun r6 h7 H locs hq hW => ?_)
    rw [hq.1] at hW
    have hq := hq.2
    exact k_iret rfl C hW dX0_leastGap_72 hq
  · have hq := hq.2 c5
    refine lv_aload_n hx hb dX0_leastGap_28 rfl (lv_at hl 0 rfl) ?_
    refine gt0_1 C hK hW ho (List.mem_cons_of_mem _ mw104) (fun _ h9 => List.mem_cons_of_mem _ (inU_wsX00 _ h9)) dX0_leastGap_29 ?_
    refine lv_iload_n hx hb dX0_leastGap_32 rfl (lv_at hl 1 rfl) ?_
    refine k_iald C hK hW (shC_lt (sl0_1 ho).1 (by decide)) (ceC_14 (sl0_1 ho).1 (sl0_1 ho).2) hq.1 dX0_leastGap_33 ?_
    have hq := hq.2
    refine lv_topi (fun x2_8 ex2_8 => ?_)
    have hq := hq x2_8 ex2_8
    refine lv_istore_n (lv' := [(2, .int x2_8), (0, .ref (G.2.2 o)), (1, .int x1)]) hx hb dX0_leastGap_34 rfl hl (by decide) rfl (fun ls hl => ?_)
    refine lv_iload_n hx hb dX0_leastGap_35 rfl (lv_at hl 0 rfl) ?_
    refine lv_aload_n hx hb dX0_leastGap_36 rfl (lv_at hl 1 rfl) ?_
    refine gt0_2 C hK hW ho (List.mem_cons_of_mem _ mw105) (fun _ h9 => List.mem_cons_of_mem _ (inU_wsX00 _ h9)) dX0_leastGap_37 ?_
    refine k_alen C hK hW (shC_lt (sl0_2 ho).1 (by decide)) (t0 := 0) rfl (ceC_13 (sl0_2 ho).1 (sl0_2 ho).2) (v := 8992) (by first | rfl | decide) dX0_leastGap_40 ?_
    refine lv_icmp_ge (tgt := 53) hx hb dX0_leastGap_41 (by decide) (fun c9 => ?_) (fun c9 => ?_)
    · have hq := hq.1 c9
      refine lv_iconst (v := 0) hx hb dX0_leastGap_53 (by decide) ?_
      exact k_iret rfl C hW dX0_leastGap_54 hq
    · have hq := hq.2 c9
      refine lv_aload_n hx hb dX0_leastGap_44 rfl (lv_at hl 1 rfl) ?_
      refine gt0_2 C hK hW ho (List.mem_cons_of_mem _ mw105) (fun _ h9 => List.mem_cons_of_mem _ (inU_wsX00 _ h9)) dX0_leastGap_45 ?_
      refine lv_iload_n hx hb dX0_leastGap_48 rfl (lv_at hl 0 rfl) ?_
      refine k_bald C hK hW (shC_lt (sl0_2 ho).1 (by decide)) (ceC_13 (sl0_2 ho).1 (sl0_2 ho).2) hq.1 dX0_leastGap_49 ?_
      have hq := hq.2
      refine lv_if_eq (tgt := 55) hx hb dX0_leastGap_50 (by decide) (fun c10 => ?_) (fun c10 => ?_)
      · have hq := hq.1 c10
        refine lv_aload_n hx hb dX0_leastGap_55 rfl (lv_at hl 1 rfl) ?_
        refine gt0_2 C hK hW ho (List.mem_cons_of_mem _ mw105) (fun _ h9 => List.mem_cons_of_mem _ (inU_wsX00 _ h9)) dX0_leastGap_56 ?_
        refine lv_iload_n hx hb dX0_leastGap_59 rfl (lv_at hl 0 rfl) ?_
        refine lv_iconst (v := 1) hx hb dX0_leastGap_60 (by decide) ?_
        refine k_bast okC C hK hW (shC_lt (sl0_2 ho).1 (by decide)) (fun g9 => ceC_13 (sl0_2 ho).1 (sl0_2 ho).2) hq.1 dX0_leastGap_61 (fun H locs hW => ?_)
        have hq := hq.2
        obtain ⟨h11, eh11⟩ : ∃ z : hp, z = sI h (o + 2) (ix x2_8) (jb 1) := ⟨_, rfl⟩
        rw [← eh11] at hW
        have hq := hq h11 eh11
        obtain ⟨x1_12, ex1_12⟩ : ∃ y : Int32, y = x1 + 1 := ⟨_, rfl⟩
        have hq := hq x1_12 ex1_12
        refine lv_iinc (v := x1_12) (lv' := [(1, .int x1_12), (2, .int x2_8), (0, .ref (G.2.2 o))]) hx hb dX0_leastGap_62 hl (k := 2) rfl (by rw [ex1_12]; rfl) (by decide) rfl (fun ls hl => ?_)
        refine lv_goto (tgt := 20) hx hb dX0_leastGap_65 (by decide) ?_
        exact hX20 _ _ _ _ _ hW (lv_sub hl [2, 0] rfl) hq
      · have hq := hq.2 c10
        refine lv_iconst (v := 0) hx hb dX0_leastGap_53 (by decide) ?_
        exact k_iret rfl C hW dX0_leastGap_54 hq
theorem k_X0_leastGap_20 {o : Nat} (ho : shC o = 0) {Q : Int32 → hp → Prop} (C : kC p s m args meth c cX0_leastGap 3 (some .int) RX0 wUX0_leastGap) (hK : kK G s) {x1 : Int32} {h : hp} {H : Heap} {locs : List Loc} {ls : Array Slot} (hW : kW SC G h (aS SC G) s H locs) (hl : lv_has ls 3 [(0, .ref (G.2.2 o)), (1, .int x1)]) (hq : w_X0_leastGap_20 o Q x1 h) : W p l e rmX0_leastGap s m args below meth c H locs 0 0 (MQ below (va_Qi Q (kB SC G) (aS SC G)) args s 0 0 (aS SC G)) (F0 m 20 ls []) := by
  have key := hq (fun (q : Int32 × hp) => ∀ (H : Heap) (locs : List Loc) (ls : Array Slot), kW SC G q.2 (aS SC G) s H locs → lv_has ls 3 [(0, .ref (G.2.2 o)), (1, .int q.1)] → W p l e rmX0_leastGap s m args below meth c H locs 0 0 (MQ below (va_Qi Q (kB SC G) (aS SC G)) args s 0 0 (aS SC G)) (F0 m 20 ls []))
    (fun q hq H locs ls hW hl => k_X0_leastGap_b20 ho C hK (fun x1 h H locs ls hW hl hI => hI H locs ls hW hl) hW hl hq)
  exact key _ _ _ hW hl
theorem k_X0_leastGap_0 {o : Nat} (ho : shC o = 0) {Q : Int32 → hp → Prop} {h : hp} (C : kC p s m args meth c cX0_leastGap 3 (some .int) RX0 wUX0_leastGap) (hK : kK G s) {H : Heap} {locs : List Loc} {ls : Array Slot} (hW : kW SC G h (aS SC G) s H locs) (hl : lv_has ls 3 [(0, .ref (G.2.2 o))]) (hq : w_X0_leastGap_0 o Q h) : W p l e rmX0_leastGap s m args below meth c H locs 0 0 (MQ below (va_Qi Q (kB SC G) (aS SC G)) args s 0 0 (aS SC G)) (F0 m 0 ls []) := by
  have hx := C.1
  have hb := C.2.1
  unfold w_X0_leastGap_0 at hq
  refine lv_aload_n hx hb dX0_leastGap_0 rfl (lv_at hl 0 rfl) ?_
  refine gt0_0 C hK hW ho (List.mem_cons_of_mem _ mw103) (fun _ h9 => List.mem_cons_of_mem _ (inU_wsX00 _ h9)) dX0_leastGap_1 ?_
  refine lv_if_ne (tgt := 10) hx hb dX0_leastGap_4 (by decide) (fun c1 => ?_) (fun c1 => ?_)
  · have hq := hq.1 c1
    refine lv_aload_n hx hb dX0_leastGap_10 rfl (lv_at hl 0 rfl) ?_
    refine gt0_2 C hK hW ho (List.mem_cons_of_mem _ mw105) (fun _ h9 => List.mem_cons_of_mem _ (inU_wsX00 _ h9)) dX0_leastGap_11 ?_
    refine lv_iconst (v := 0) hx hb dX0_leastGap_14 (by decide) ?_
    refine k_cv hW (va_runS (As := [.ref (G.2.2 (o + 2)), .int 0]) (rest := []) (k_fix C) (c_J7_fill_031fb l G (sl0_2 ho).1 (sl0_2 ho).2 h 0 _ hq) (va_cwS 2 C.2.2.2.2.2.1 (gU_S mw1204 mw1205 mw864 mw1206) rfl rfl rfl (by decide +kernel) ⟨Nat.le_of_ble_eq_true rfl, Nat.le_of_ble_eq_true rfl⟩) (k_preS hK hW) rfl rfl hl.1 rfl (lv_room (Nat.le_of_ble_eq_true rfl)) dX0_leastGap_15 ⟨Nat.le_refl 0, Nat.le_refl 0⟩) (fun h2 H locs hq hW => ?_)
    refine lv_iconst (v := 0) hx hb dX0_leastGap_18 (by decide) ?_
    refine lv_istore_n (lv' := [(1, .int 0), (0, .ref (G.2.2 o))]) hx hb dX0_leastGap_19 rfl hl (by decide) rfl (fun ls hl => ?_)
    exact k_X0_leastGap_20 ho C hK hW (lv_sub hl [1, 0] rfl) hq
  · have hq := hq.2 c1
    refine lv_bipush (v := (-2)) hx hb dX0_leastGap_7 (by decide) ?_
    exact k_iret rfl C hW dX0_leastGap_9 hq
theorem c_X0_leastGap (l : Launch) (G : wG) {o : Nat} (ho : shC o = 0) (h : hp) (Q : Int32 → hp → Prop) (hq : w_X0_leastGap o h Q) : ctI l SC G yX0_leastGap wUX0_leastGap rmX0_leastGap h [.ref (G.2.2 o)] Q := by
  refine k_start (cc := cX0_leastGap) (maxL := 3) (rt := (some .int)) (own := RX0) (by decide +kernel) rfl rfl (Nat.le_of_ble_eq_true rfl) ?_
  intro p e s m below meth c ls C hK hW hl
  exact k_X0_leastGap_0 ho C hK hW hl hq
theorem k_X1_takeAll_b13 {Q : hp → Prop} {X13 : Int32 × hp → Prop} (C : kC p s m args meth c cX1_takeAll 2 none RX1 wUX1_takeAll) (hK : kK G s) (hX13 : ∀ (x1 : Int32) (h : hp) (H : Heap) (locs : List Loc) (ls : Array Slot), kW SC G h (aS SC G) s H locs → lv_has ls 2 [(0, .ref (G.2.2 71)), (1, .int x1)] → X13 (x1, h) → W p l e rmX1_takeAll s m args below meth c H locs 0 0 (MQ below (va_Qv Q (kB SC G) (aS SC G)) args s 0 0 (aS SC G)) (F0 m 13 ls [])) {x1 : Int32} {h : hp} {H : Heap} {locs : List Loc} {ls : Array Slot} (hW : kW SC G h (aS SC G) s H locs) (hl : lv_has ls 2 [(0, .ref (G.2.2 71)), (1, .int x1)]) (hq : w_X1_takeAll_b13 Q X13 x1 h) : W p l e rmX1_takeAll s m args below meth c H locs 0 0 (MQ below (va_Qv Q (kB SC G) (aS SC G)) args s 0 0 (aS SC G)) (F0 m 13 ls []) := by
  have hx := C.1
  have hb := C.2.1
  unfold w_X1_takeAll_b13 at hq
  refine lv_iload_n hx hb dX1_takeAll_13 rfl (lv_at hl 1 rfl) ?_
  refine lv_aload_n hx hb dX1_takeAll_14 rfl (lv_at hl 0 rfl) ?_
  refine gt1_1 C hK hW (rfl : shC 71 = 1) (List.mem_cons_of_mem _ mw237) (fun _ h9 => List.mem_cons_of_mem _ (inU_wsX10 _ h9)) dX1_takeAll_15 ?_
  refine lv_icmp_ge (tgt := 34) hx hb dX1_takeAll_18 (by decide) (fun c2 => ?_) (fun c2 => ?_)
  · have hq := hq.1 c2
    exact k_vret rfl C hW dX1_takeAll_34 hq
  · have hq := hq.2 c2
    refine lv_aload_n hx hb dX1_takeAll_21 rfl (lv_at hl 0 rfl) ?_
    refine gt1_0 C hK hW (rfl : shC 71 = 1) (List.mem_cons_of_mem _ mw236) (fun _ h9 => List.mem_cons_of_mem _ (inU_wsX10 _ h9)) dX1_takeAll_22 ?_
    refine lv_iload_n hx hb dX1_takeAll_25 rfl (lv_at hl 1 rfl) ?_
    refine lv_iload_n hx hb dX1_takeAll_26 rfl (lv_at hl 1 rfl) ?_
    refine k_iast okC C hK hW (shC_lt (rfl : shC 72 = 14) (by decide)) (fun g9 => ceC_14 (rfl : shC 72 = 14) (rfl : lnC 72 = 10000)) hq.1 dX1_takeAll_27 (fun H locs hW => ?_)
    have hq := hq.2
    obtain ⟨h3, eh3⟩ : ∃ z : hp, z = sI h 72 (ix x1) x1 := ⟨_, rfl⟩
    rw [← eh3] at hW
    have hq := hq h3 eh3
    obtain ⟨x1_4, ex1_4⟩ : ∃ y : Int32, y = x1 + 1 := ⟨_, rfl⟩
    have hq := hq x1_4 ex1_4
    refine lv_iinc (v := x1_4) (lv' := [(1, .int x1_4), (0, .ref (G.2.2 71))]) hx hb dX1_takeAll_28 hl (k := 1) rfl (by rw [ex1_4]; rfl) (by decide) rfl (fun ls hl => ?_)
    refine lv_goto (tgt := 13) hx hb dX1_takeAll_31 (by decide) ?_
    exact hX13 _ _ _ _ _ hW (lv_sub hl [1, 0] rfl) hq
theorem k_X1_takeAll_13 {Q : hp → Prop} (C : kC p s m args meth c cX1_takeAll 2 none RX1 wUX1_takeAll) (hK : kK G s) {x1 : Int32} {h : hp} {H : Heap} {locs : List Loc} {ls : Array Slot} (hW : kW SC G h (aS SC G) s H locs) (hl : lv_has ls 2 [(0, .ref (G.2.2 71)), (1, .int x1)]) (hq : w_X1_takeAll_13 Q x1 h) : W p l e rmX1_takeAll s m args below meth c H locs 0 0 (MQ below (va_Qv Q (kB SC G) (aS SC G)) args s 0 0 (aS SC G)) (F0 m 13 ls []) := by
  have key := hq (fun (q : Int32 × hp) => ∀ (H : Heap) (locs : List Loc) (ls : Array Slot), kW SC G q.2 (aS SC G) s H locs → lv_has ls 2 [(0, .ref (G.2.2 71)), (1, .int q.1)] → W p l e rmX1_takeAll s m args below meth c H locs 0 0 (MQ below (va_Qv Q (kB SC G) (aS SC G)) args s 0 0 (aS SC G)) (F0 m 13 ls []))
    (fun q hq H locs ls hW hl => k_X1_takeAll_b13 C hK (fun x1 h H locs ls hW hl hI => hI H locs ls hW hl) hW hl hq)
  exact key _ _ _ hW hl
theorem k_X1_takeAll_0 {Q : hp → Prop} {h : hp} (C : kC p s m args meth c cX1_takeAll 2 none RX1 wUX1_takeAll) (hK : kK G s) {H : Heap} {locs : List Loc} {ls : Array Slot} (hW : kW SC G h (aS SC G) s H locs) (hl : lv_has ls 2 [(0, .ref (G.2.2 71))]) (hq : w_X1_takeAll_0 Q h) : W p l e rmX1_takeAll s m args below meth c H locs 0 0 (MQ below (va_Qv Q (kB SC G) (aS SC G)) args s 0 0 (aS SC G)) (F0 m 0 ls []) := by
  have hx := C.1
  have hb := C.2.1
  unfold w_X1_takeAll_0 at hq
  refine lv_aload_n hx hb dX1_takeAll_0 rfl (lv_at hl 0 rfl) ?_
  refine lv_aload_n hx hb dX1_takeAll_1 rfl (lv_at hl 0 rfl) ?_
  refine gt1_4 C hK hW (rfl : shC 71 = 1) (List.mem_cons_of_mem _ mw243) (fun _ h9 => List.mem_cons_of_mem _ (inU_wsX10 _ h9)) dX1_takeAll_2 ?_
  refine gt10_1 C hK hW (rfl : shC 64 = 10) (List.mem_cons_of_mem _ mw974) (fun _ h9 => List.mem_cons_of_mem _ (inU_wsX100 _ h9)) dX1_takeAll_5 ?_
  refine pt1_1 C hK hW (rfl : shC 71 = 1) (List.mem_cons_of_mem _ mw237) (fun _ h9 => List.mem_cons_of_mem _ (inU_wsX10 _ h9)) dX1_takeAll_8 (fun h1 H locs eh1 hW => ?_)
  have hq := hq h1 eh1
  refine lv_iconst (v := 0) hx hb dX1_takeAll_11 (by decide) ?_
  refine lv_istore_n (lv' := [(1, .int 0), (0, .ref (G.2.2 71))]) hx hb dX1_takeAll_12 rfl hl (by decide) rfl (fun ls hl => ?_)
  exact k_X1_takeAll_13 C hK hW (lv_sub hl [1, 0] rfl) hq
theorem c_X1_takeAll (l : Launch) (G : wG) (h : hp) (Q : hp → Prop) (hq : w_X1_takeAll h Q) : ctV l SC G yX1_takeAll wUX1_takeAll rmX1_takeAll h [.ref (G.2.2 71)] Q := by
  refine k_start (cc := cX1_takeAll) (maxL := 2) (rt := none) (own := RX1) (by decide +kernel) rfl rfl (Nat.le_of_ble_eq_true rfl) ?_
  intro p e s m below meth c ls C hK hW hl
  exact k_X1_takeAll_0 C hK hW hl hq
theorem k_X1_keep_b5 {Q : hp → Prop} {X5 : Int32 × Int32 × hp → Prop} {x1 : Int64} (C : kC p s m args meth c cX1_keep 5 none RX1 wUX1_keep) (hK : kK G s) (hX5 : ∀ (x3 : Int32) (x4 : Int32) (h : hp) (H : Heap) (locs : List Loc) (ls : Array Slot), kW SC G h (aS SC G) s H locs → lv_has ls 5 [(0, .ref (G.2.2 71)), (1, .long x1), (3, .int x3), (4, .int x4)] → X5 (x3, x4, h) → W p l e rmX1_keep s m args below meth c H locs 0 0 (MQ below (va_Qv Q (kB SC G) (aS SC G)) args s 0 0 (aS SC G)) (F0 m 5 ls [])) {x3 : Int32} {x4 : Int32} {h : hp} {H : Heap} {locs : List Loc} {ls : Array Slot} (hW : kW SC G h (aS SC G) s H locs) (hl : lv_has ls 5 [(0, .ref (G.2.2 71)), (1, .long x1), (3, .int x3), (4, .int x4)]) (hq : w_X1_keep_b5 Q x1 X5 x3 x4 h) : W p l e rmX1_keep s m args below meth c H locs 0 0 (MQ below (va_Qv Q (kB SC G) (aS SC G)) args s 0 0 (aS SC G)) (F0 m 5 ls []) := by
  have hx := C.1
  have hb := C.2.1
  unfold w_X1_keep_b5 at hq
  refine lv_iload hx hb dX1_keep_5 (lv_at hl 3 rfl) ?_
  refine lv_aload_n hx hb dX1_keep_7 rfl (lv_at hl 0 rfl) ?_
  refine gt1_1 C hK hW (rfl : shC 71 = 1) (List.mem_cons_of_mem _ mw237) (fun _ h9 => List.mem_cons_of_mem _ (inU_wsX10 _ h9)) dX1_keep_8 ?_
  refine lv_icmp_ge (tgt := 56) hx hb dX1_keep_11 (by decide) (fun c1 => ?_) (fun c1 => ?_)
  · have hq := hq.1 c1
    refine lv_aload_n hx hb dX1_keep_56 rfl (lv_at hl 0 rfl) ?_
    refine lv_iload_n hx hb dX1_keep_57 rfl (lv_at hl 2 rfl) ?_
    refine pt1_1 C hK hW (rfl : shC 71 = 1) (List.mem_cons_of_mem _ mw237) (fun _ h9 => List.mem_cons_of_mem _ (inU_wsX10 _ h9)) dX1_keep_58 (fun h2 H locs eh2 hW => ?_)
    have hq := hq h2 eh2
    exact k_vret rfl C hW dX1_keep_61 hq
  · have hq := hq.2 c1
    refine lv_aload_n hx hb dX1_keep_14 rfl (lv_at hl 0 rfl) ?_
    refine gt1_4 C hK hW (rfl : shC 71 = 1) (List.mem_cons_of_mem _ mw243) (fun _ h9 => List.mem_cons_of_mem _ (inU_wsX10 _ h9)) dX1_keep_15 ?_
    refine gt10_3 C hK hW (rfl : shC 64 = 10) (List.mem_cons_of_mem _ mw983) (fun _ h9 => List.mem_cons_of_mem _ (inU_wsX100 _ h9)) dX1_keep_18 ?_
    refine lv_aload_n hx hb dX1_keep_21 rfl (lv_at hl 0 rfl) ?_
    refine gt1_0 C hK hW (rfl : shC 71 = 1) (List.mem_cons_of_mem _ mw236) (fun _ h9 => List.mem_cons_of_mem _ (inU_wsX10 _ h9)) dX1_keep_22 ?_
    refine lv_iload hx hb dX1_keep_25 (lv_at hl 3 rfl) ?_
    refine k_iald C hK hW (shC_lt (rfl : shC 72 = 14) (by decide)) (ceC_14 (rfl : shC 72 = 14) (rfl : lnC 72 = 10000)) hq.1 dX1_keep_27 ?_
    have hq := hq.2
    refine k_lald C hK hW (shC_lt (rfl : shC 65 = 15) (by decide)) (ceC_15 (rfl : shC 65 = 15) (rfl : lnC 65 = 10000)) hq.1 dX1_keep_28 ?_
    have hq := hq.2
    refine lv_lload_n hx hb dX1_keep_29 rfl (lv_at hl 1 rfl) ?_
    refine W.lcmp hx hb dX1_keep_30 ?_
    refine lv_if_ne (tgt := 50) hx hb dX1_keep_31 (by decide) (fun c3 => ?_) (fun c3 => ?_)
    · have hq := hq.1 (fun z => c3 ((lg_cmp_eq _ _).mpr z))
      obtain ⟨x4_4, ex4_4⟩ : ∃ y : Int32, y = x4 + 1 := ⟨_, rfl⟩
      have hq := hq x4_4 ex4_4
      refine lv_iinc (v := x4_4) (lv' := [(4, .int x4_4), (0, .ref (G.2.2 71)), (1, .long x1), (3, .int x3)]) hx hb dX1_keep_50 hl (k := 3) rfl (by rw [ex4_4]; rfl) (by decide) rfl (fun ls hl => ?_)
      refine lv_goto (tgt := 5) hx hb dX1_keep_53 (by decide) ?_
      exact hX5 _ _ _ _ _ _ hW (lv_sub hl [1, 2, 3, 0] rfl) hq
    · have hq := hq.2 ((lg_cmp_eq _ _).mp c3)
      refine lv_aload_n hx hb dX1_keep_34 rfl (lv_at hl 0 rfl) ?_
      refine gt1_0 C hK hW (rfl : shC 71 = 1) (List.mem_cons_of_mem _ mw236) (fun _ h9 => List.mem_cons_of_mem _ (inU_wsX10 _ h9)) dX1_keep_35 ?_
      refine lv_iload_n hx hb dX1_keep_38 rfl (lv_at hl 2 rfl) ?_
      refine lv_aload_n hx hb dX1_keep_39 rfl (lv_at hl 0 rfl) ?_
      refine gt1_0 C hK hW (rfl : shC 71 = 1) (List.mem_cons_of_mem _ mw236) (fun _ h9 => List.mem_cons_of_mem _ (inU_wsX10 _ h9)) dX1_keep_40 ?_
      refine lv_iload hx hb dX1_keep_43 (lv_at hl 3 rfl) ?_
      refine k_iald C hK hW (shC_lt (rfl : shC 72 = 14) (by decide)) (ceC_14 (rfl : shC 72 = 14) (rfl : lnC 72 = 10000)) hq.1 dX1_keep_45 ?_
      have hq := hq.2
      refine k_iast okC C hK hW (shC_lt (rfl : shC 72 = 14) (by decide)) (fun g9 => ceC_14 (rfl : shC 72 = 14) (rfl : lnC 72 = 10000)) hq.1 dX1_keep_46 (fun H locs hW => ?_)
      have hq := hq.2
      obtain ⟨h5, eh5⟩ : ∃ z : hp, z = sI h 72 (ix x3) (gI h 72 (ix x4)) := ⟨_, rfl⟩
      rw [← eh5] at hW
      have hq := hq h5 eh5
      obtain ⟨x3_6, ex3_6⟩ : ∃ y : Int32, y = x3 + 1 := ⟨_, rfl⟩
      have hq := hq x3_6 ex3_6
      refine lv_iinc (v := x3_6) (lv' := [(3, .int x3_6), (0, .ref (G.2.2 71)), (1, .long x1), (4, .int x4)]) hx hb dX1_keep_47 hl (k := 2) rfl (by rw [ex3_6]; rfl) (by decide) rfl (fun ls hl => ?_)
      obtain ⟨x4_7, ex4_7⟩ : ∃ y : Int32, y = x4 + 1 := ⟨_, rfl⟩
      have hq := hq x4_7 ex4_7
      refine lv_iinc (v := x4_7) (lv' := [(4, .int x4_7), (3, .int x3_6), (0, .ref (G.2.2 71)), (1, .long x1)]) hx hb dX1_keep_50 hl (k := 3) rfl (by rw [ex4_7]; rfl) (by decide) rfl (fun ls hl => ?_)
      refine lv_goto (tgt := 5) hx hb dX1_keep_53 (by decide) ?_
      exact hX5 _ _ _ _ _ _ hW (lv_sub hl [2, 3, 1, 0] rfl) hq
theorem k_X1_keep_5 {Q : hp → Prop} {x1 : Int64} (C : kC p s m args meth c cX1_keep 5 none RX1 wUX1_keep) (hK : kK G s) {x3 : Int32} {x4 : Int32} {h : hp} {H : Heap} {locs : List Loc} {ls : Array Slot} (hW : kW SC G h (aS SC G) s H locs) (hl : lv_has ls 5 [(0, .ref (G.2.2 71)), (1, .long x1), (3, .int x3), (4, .int x4)]) (hq : w_X1_keep_5 Q x1 x3 x4 h) : W p l e rmX1_keep s m args below meth c H locs 0 0 (MQ below (va_Qv Q (kB SC G) (aS SC G)) args s 0 0 (aS SC G)) (F0 m 5 ls []) := by
  have key := hq (fun (q : Int32 × Int32 × hp) => ∀ (H : Heap) (locs : List Loc) (ls : Array Slot), kW SC G q.2.2 (aS SC G) s H locs → lv_has ls 5 [(0, .ref (G.2.2 71)), (1, .long x1), (3, .int q.1), (4, .int q.2.1)] → W p l e rmX1_keep s m args below meth c H locs 0 0 (MQ below (va_Qv Q (kB SC G) (aS SC G)) args s 0 0 (aS SC G)) (F0 m 5 ls []))
    (fun q hq H locs ls hW hl => k_X1_keep_b5 C hK (fun x3 x4 h H locs ls hW hl hI => hI H locs ls hW hl) hW hl hq)
  exact key _ _ _ hW hl
theorem k_X1_keep_0 {Q : hp → Prop} {x1 : Int64} {h : hp} (C : kC p s m args meth c cX1_keep 5 none RX1 wUX1_keep) (hK : kK G s) {H : Heap} {locs : List Loc} {ls : Array Slot} (hW : kW SC G h (aS SC G) s H locs) (hl : lv_has ls 5 [(0, .ref (G.2.2 71)), (1, .long x1)]) (hq : w_X1_keep_0 Q x1 h) : W p l e rmX1_keep s m args below meth c H locs 0 0 (MQ below (va_Qv Q (kB SC G) (aS SC G)) args s 0 0 (aS SC G)) (F0 m 0 ls []) := by
  have hx := C.1
  have hb := C.2.1
  unfold w_X1_keep_0 at hq
  refine lv_iconst (v := 0) hx hb dX1_keep_0 (by decide) ?_
  refine lv_istore_n (lv' := [(3, .int 0), (0, .ref (G.2.2 71)), (1, .long x1)]) hx hb dX1_keep_1 rfl hl (by decide) rfl (fun ls hl => ?_)
  refine lv_iconst (v := 0) hx hb dX1_keep_2 (by decide) ?_
  refine lv_istore (lv' := [(4, .int 0), (3, .int 0), (0, .ref (G.2.2 71)), (1, .long x1)]) hx hb dX1_keep_3 hl (by decide) rfl (fun ls hl => ?_)
  exact k_X1_keep_5 C hK hW (lv_sub hl [2, 3, 1, 0] rfl) hq
theorem c_X1_keep (l : Launch) (G : wG) (h : hp) (x1 : Int64) (Q : hp → Prop) (hq : w_X1_keep h x1 Q) : ctV l SC G yX1_keep wUX1_keep rmX1_keep h [.ref (G.2.2 71), .long x1] Q := by
  refine k_start (cc := cX1_keep) (maxL := 5) (rt := none) (own := RX1) (by decide +kernel) rfl rfl (Nat.le_of_ble_eq_true rfl) ?_
  intro p e s m below meth c ls C hK hW hl
  exact k_X1_keep_0 C hK hW hl hq
end LINKS
