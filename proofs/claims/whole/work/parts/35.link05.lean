section LINKS
variable {p : Program} {l : Launch} {e : Env} {s : State} {m : MethodId} {args : Array Value} {below : List Frame} {meth : Method} {c : Code} {G : wG}
theorem k_X7_isFullOf_0 {o : Nat} (ho : shC o = 7) {Q : Int32 → Prop} {x1 : Int32} {h : hp} (C : kC p s m args meth c cX7_isFullOf 2 (some .boolean) RX7 wUX7_isFullOf) (hK : kK G s) {H : Heap} {locs : List Loc} {ls : Array Slot} (hW : kW SC G h (aS SC G) s H locs) (hl : lv_has ls 2 [(0, .ref (G.2.2 o)), (1, .int x1)]) (hq : w_X7_isFullOf_0 o Q x1 h) : W p l e rmX7_isFullOf s m args below meth c H locs 0 0 (MQ below (va_Qi (fun r9 h9 => h9 = h ∧ Q r9) (kB SC G) (aS SC G)) args s 0 0 (aS SC G)) (F0 m 0 ls []) := by
  have hx := C.1
  have hb := C.2.1
  unfold w_X7_isFullOf_0 at hq
  refine lv_iload_n hx hb dX7_isFullOf_0 rfl (lv_at hl 1 rfl) ?_
  refine lv_topi (fun sw1 esw1 => ?_)
  have hq := hq sw1 esw1
  by_cases c2 : sw1 = 256
  · have hq := hq.1 c2
    refine k_top c2 ?_
    refine lv_tableIn (tgt := 40) (off := 39) hx hb dX7_isFullOf_1 (by decide) (by decide) (by decide) (by decide) ?_
    refine lv_aload_n hx hb dX7_isFullOf_40 rfl (lv_at hl 0 rfl) ?_
    refine gt7_0 C hK hW ho (List.mem_cons_of_mem _ mw61) (fun _ h9 => List.mem_cons_of_mem _ (inU_wsX70 _ h9)) dX7_isFullOf_41 ?_
    refine lv_bipush (v := 6) hx hb dX7_isFullOf_44 (by decide) ?_
    refine lv_icmp_lt (tgt := 53) hx hb dX7_isFullOf_46 (by decide) (fun c3 => ?_) (fun c3 => ?_)
    · have hq := hq.1 c3
      refine lv_iconst (v := 0) hx hb dX7_isFullOf_53 (by decide) ?_
      exact k_zret rfl isZ_0.1 C hW dX7_isFullOf_54 ⟨rfl, hq⟩
    · have hq := hq.2 c3
      refine lv_iconst (v := 1) hx hb dX7_isFullOf_49 (by decide) ?_
      refine lv_goto (tgt := 54) hx hb dX7_isFullOf_50 (by decide) ?_
      exact k_zret rfl isZ_1.1 C hW dX7_isFullOf_54 ⟨rfl, hq⟩
  have hq := hq.2
  by_cases c4 : sw1 = 257
  · have hq := hq.1 c4
    refine k_top c4 ?_
    refine lv_tableIn (tgt := 40) (off := 39) hx hb dX7_isFullOf_1 (by decide) (by decide) (by decide) (by decide) ?_
    refine lv_aload_n hx hb dX7_isFullOf_40 rfl (lv_at hl 0 rfl) ?_
    refine gt7_0 C hK hW ho (List.mem_cons_of_mem _ mw61) (fun _ h9 => List.mem_cons_of_mem _ (inU_wsX70 _ h9)) dX7_isFullOf_41 ?_
    refine lv_bipush (v := 6) hx hb dX7_isFullOf_44 (by decide) ?_
    refine lv_icmp_lt (tgt := 53) hx hb dX7_isFullOf_46 (by decide) (fun c5 => ?_) (fun c5 => ?_)
    · have hq := hq.1 c5
      refine lv_iconst (v := 0) hx hb dX7_isFullOf_53 (by decide) ?_
      exact k_zret rfl isZ_0.1 C hW dX7_isFullOf_54 ⟨rfl, hq⟩
    · have hq := hq.2 c5
      refine lv_iconst (v := 1) hx hb dX7_isFullOf_49 (by decide) ?_
      refine lv_goto (tgt := 54) hx hb dX7_isFullOf_50 (by decide) ?_
      exact k_zret rfl isZ_1.1 C hW dX7_isFullOf_54 ⟨rfl, hq⟩
  have hq := hq.2
  by_cases c6 : sw1 = 258
  · have hq := hq.1 c6
    refine k_top c6 ?_
    refine lv_tableIn (tgt := 91) (off := 90) hx hb dX7_isFullOf_1 (by decide) (by decide) (by decide) (by decide) ?_
    refine lv_iconst (v := 0) hx hb dX7_isFullOf_91 (by decide) ?_
    exact k_zret rfl isZ_0.1 C hW dX7_isFullOf_92 ⟨rfl, hq⟩
  have hq := hq.2
  by_cases c7 : sw1 = 259
  · have hq := hq.1 c7
    refine k_top c7 ?_
    refine lv_tableIn (tgt := 91) (off := 90) hx hb dX7_isFullOf_1 (by decide) (by decide) (by decide) (by decide) ?_
    refine lv_iconst (v := 0) hx hb dX7_isFullOf_91 (by decide) ?_
    exact k_zret rfl isZ_0.1 C hW dX7_isFullOf_92 ⟨rfl, hq⟩
  have hq := hq.2
  by_cases c8 : sw1 = 260
  · have hq := hq.1 c8
    refine k_top c8 ?_
    refine lv_tableIn (tgt := 55) (off := 54) hx hb dX7_isFullOf_1 (by decide) (by decide) (by decide) (by decide) ?_
    refine lv_aload_n hx hb dX7_isFullOf_55 rfl (lv_at hl 0 rfl) ?_
    refine gt7_5 C hK hW ho (List.mem_cons_of_mem _ mw74) (fun _ h9 => List.mem_cons_of_mem _ (inU_wsX70 _ h9)) dX7_isFullOf_56 ?_
    refine gt6_0 C hK hW (sl7_5 ho) (List.mem_cons_of_mem _ mw415) (fun _ h9 => List.mem_cons_of_mem _ (inU_wsX60 _ h9)) dX7_isFullOf_59 ?_
    refine lv_bipush (v := 8) hx hb dX7_isFullOf_62 (by decide) ?_
    refine lv_icmp_lt (tgt := 71) hx hb dX7_isFullOf_64 (by decide) (fun c9 => ?_) (fun c9 => ?_)
    · have hq := hq.1 c9
      refine lv_iconst (v := 0) hx hb dX7_isFullOf_71 (by decide) ?_
      exact k_zret rfl isZ_0.1 C hW dX7_isFullOf_72 ⟨rfl, hq⟩
    · have hq := hq.2 c9
      refine lv_iconst (v := 1) hx hb dX7_isFullOf_67 (by decide) ?_
      refine lv_goto (tgt := 72) hx hb dX7_isFullOf_68 (by decide) ?_
      exact k_zret rfl isZ_1.1 C hW dX7_isFullOf_72 ⟨rfl, hq⟩
  have hq := hq.2
  by_cases c10 : sw1 = 261
  · have hq := hq.1 c10
    refine k_top c10 ?_
    refine lv_tableIn (tgt := 73) (off := 72) hx hb dX7_isFullOf_1 (by decide) (by decide) (by decide) (by decide) ?_
    refine lv_aload_n hx hb dX7_isFullOf_73 rfl (lv_at hl 0 rfl) ?_
    refine gt7_6 C hK hW ho (List.mem_cons_of_mem _ mw78) (fun _ h9 => List.mem_cons_of_mem _ (inU_wsX70 _ h9)) dX7_isFullOf_74 ?_
    refine gt0_0 C hK hW (sl7_6 ho) (List.mem_cons_of_mem _ mw416) (fun _ h9 => List.mem_cons_of_mem _ (inU_wsX00 _ h9)) dX7_isFullOf_77 ?_
    refine lv_bipush (v := 9) hx hb dX7_isFullOf_80 (by decide) ?_
    refine lv_icmp_lt (tgt := 89) hx hb dX7_isFullOf_82 (by decide) (fun c11 => ?_) (fun c11 => ?_)
    · have hq := hq.1 c11
      refine lv_iconst (v := 0) hx hb dX7_isFullOf_89 (by decide) ?_
      exact k_zret rfl isZ_0.1 C hW dX7_isFullOf_90 ⟨rfl, hq⟩
    · have hq := hq.2 c11
      refine lv_iconst (v := 1) hx hb dX7_isFullOf_85 (by decide) ?_
      refine lv_goto (tgt := 90) hx hb dX7_isFullOf_86 (by decide) ?_
      exact k_zret rfl isZ_1.1 C hW dX7_isFullOf_90 ⟨rfl, hq⟩
  have hq := hq.2
  have c12 : sw1.toInt < 256 ∨ 261 < sw1.toInt := by
    rcases Int.lt_or_le sw1.toInt 256 with q | q
    · exact Or.inl q
    · refine Or.inr (Int.not_le.mp fun q2 => ?_)
      have q3 : sw1 = Int32.ofInt sw1.toInt := (Int32.ofInt_toInt sw1).symm
      have q4 : sw1.toInt = 256 ∨ sw1.toInt = 257 ∨ sw1.toInt = 258 ∨ sw1.toInt = 259 ∨ sw1.toInt = 260 ∨ sw1.toInt = 261 := by omega
      rcases q4 with q4 | q4 | q4 | q4 | q4 | q4 <;> rw [q4] at q3 <;> simp_all
  refine lv_tableOut (tgt := 91) hx hb dX7_isFullOf_1 c12 (by decide) ?_
  have hq := hq c12
  refine lv_iconst (v := 0) hx hb dX7_isFullOf_91 (by decide) ?_
  exact k_zret rfl isZ_0.1 C hW dX7_isFullOf_92 ⟨rfl, hq⟩
theorem c_X7_isFullOf (l : Launch) (G : wG) {o : Nat} (ho : shC o = 7) (h : hp) (x1 : Int32) (Q : Int32 → Prop) (hq : w_X7_isFullOf o h x1 Q) : ctI l SC G yX7_isFullOf wUX7_isFullOf rmX7_isFullOf h [.ref (G.2.2 o), .int x1] (fun r9 h9 => h9 = h ∧ Q r9) := by
  refine k_start (cc := cX7_isFullOf) (maxL := 2) (rt := (some .boolean)) (own := RX7) (by decide +kernel) rfl rfl (Nat.le_of_ble_eq_true rfl) ?_
  intro p e s m below meth c ls C hK hW hl
  exact k_X7_isFullOf_0 ho C hK hW hl hq
theorem k_X5_take_0 {Q : Int32 → hp → Prop} {x1 : Int32} {h : hp} (C : kC p s m args meth c cX5_take 2 (some .boolean) RX5 wUX5_take) (hK : kK G s) {H : Heap} {locs : List Loc} {ls : Array Slot} (hW : kW SC G h (aS SC G) s H locs) (hl : lv_has ls 2 [(0, .ref (G.2.2 2)), (1, .int x1)]) (hq : w_X5_take_0 Q x1 h) : W p l e rmX5_take s m args below meth c H locs 0 0 (MQ below (va_Qi Q (kB SC G) (aS SC G)) args s 0 0 (aS SC G)) (F0 m 0 ls []) := by
  have hx := C.1
  have hb := C.2.1
  unfold w_X5_take_0 at hq
  refine lv_aload_n hx hb dX5_take_0 rfl (lv_at hl 0 rfl) ?_
  refine k_ci hW (va_runV (As := []) (rest := []) (k_fix C) (c_X5_kind l G h _ hq) (cwV 0 C.2.2.2.2.2.1 (gU_V mw397 mw398 mw399 mw19 mw400) rfl rfl rfl (by decide +kernel) ⟨Nat.le_of_ble_eq_true rfl, Nat.le_of_ble_eq_true rfl⟩) (k_preV hK hW (shC_lt (rfl : shC 2 = 5) (by decide)) (ceC_5 (rfl : shC 2 = 5)) (q := (RX5, TX5, 7)) rfl) rfl rfl hl.1 rfl (lv_room (Nat.le_of_ble_eq_true rfl)) dX5_take_1 ⟨Nat.le_refl 0, Nat.le_refl 0⟩) (fun r1 h2 H locs hq hW => ?_)
  rw [hq.1] at hW
  have hq := hq.2
  refine lv_iload_n hx hb dX5_take_4 rfl (lv_at hl 1 rfl) ?_
  refine lv_icmp_eq (tgt := 14) hx hb dX5_take_5 (by decide) (fun c3 => ?_) (fun c3 => ?_)
  · have hq := hq.1 c3
    refine lv_aload_n hx hb dX5_take_14 rfl (lv_at hl 0 rfl) ?_
    refine gt5_2 C hK hW (rfl : shC 2 = 5) (List.mem_cons_of_mem _ mw45) (fun _ h9 => List.mem_cons_of_mem _ (inU_wsX50 _ h9)) dX5_take_15 ?_
    refine lv_sipush (v := 400) hx hb dX5_take_18 (by decide) ?_
    refine lv_icmp_lt (tgt := 30) hx hb dX5_take_21 (by decide) (fun c4 => ?_) (fun c4 => ?_)
    · have hq := hq.1 c4
      refine lv_aload_n hx hb dX5_take_30 rfl (lv_at hl 0 rfl) ?_
      refine lv_dup hx hb dX5_take_31 rfl ?_
      refine gt5_2 C hK hW (rfl : shC 2 = 5) (List.mem_cons_of_mem _ mw45) (fun _ h9 => List.mem_cons_of_mem _ (inU_wsX50 _ h9)) dX5_take_32 ?_
      refine lv_iconst (v := 1) hx hb dX5_take_35 (by decide) ?_
      refine lv_iadd hx hb dX5_take_36 ?_
      refine pt5_2 C hK hW (rfl : shC 2 = 5) (List.mem_cons_of_mem _ mw45) (fun _ h9 => List.mem_cons_of_mem _ (inU_wsX50 _ h9)) dX5_take_37 (fun h5 H locs eh5 hW => ?_)
      have hq := hq h5 eh5
      refine lv_iconst (v := 1) hx hb dX5_take_40 (by decide) ?_
      exact k_zret rfl isZ_1.1 C hW dX5_take_41 hq
    · have hq := hq.2 c4
      refine lv_aload_n hx hb dX5_take_24 rfl (lv_at hl 0 rfl) ?_
      refine lv_iconst (v := 2) hx hb dX5_take_25 (by decide) ?_
      refine k_ci hW (va_runV (As := [.int 2]) (rest := []) (k_fix C) (c_X5_stop l G h 2 _ hq) (cwV 1 C.2.2.2.2.2.1 (gU_V mw406 mw407 mw408 mw19 mw409) rfl rfl rfl (by decide +kernel) ⟨Nat.le_of_ble_eq_true rfl, Nat.le_of_ble_eq_true rfl⟩) (k_preV hK hW (shC_lt (rfl : shC 2 = 5) (by decide)) (ceC_5 (rfl : shC 2 = 5)) (q := (RX5, TX5, 7)) rfl) rfl rfl hl.1 rfl (lv_room (Nat.le_of_ble_eq_true rfl)) dX5_take_26 ⟨Nat.le_refl 0, Nat.le_refl 0⟩) (fun r7 h6 H locs hq hW => ?_)
      exact k_zret rfl hq.1.1 C hW dX5_take_29 hq.2
  · have hq := hq.2 c3
    refine lv_aload_n hx hb dX5_take_8 rfl (lv_at hl 0 rfl) ?_
    refine lv_iconst (v := 1) hx hb dX5_take_9 (by decide) ?_
    refine k_ci hW (va_runV (As := [.int 1]) (rest := []) (k_fix C) (c_X5_stop l G h 1 _ hq) (cwV 1 C.2.2.2.2.2.1 (gU_V mw406 mw407 mw408 mw19 mw409) rfl rfl rfl (by decide +kernel) ⟨Nat.le_of_ble_eq_true rfl, Nat.le_of_ble_eq_true rfl⟩) (k_preV hK hW (shC_lt (rfl : shC 2 = 5) (by decide)) (ceC_5 (rfl : shC 2 = 5)) (q := (RX5, TX5, 7)) rfl) rfl rfl hl.1 rfl (lv_room (Nat.le_of_ble_eq_true rfl)) dX5_take_10 ⟨Nat.le_refl 0, Nat.le_refl 0⟩) (fun r9 h8 H locs hq hW => ?_)
    exact k_zret rfl hq.1.1 C hW dX5_take_13 hq.2
theorem c_X5_take (l : Launch) (G : wG) (h : hp) (x1 : Int32) (Q : Int32 → hp → Prop) (hq : w_X5_take h x1 Q) : ctI l SC G yX5_take wUX5_take rmX5_take h [.ref (G.2.2 2), .int x1] Q := by
  refine k_start (cc := cX5_take) (maxL := 2) (rt := (some .boolean)) (own := RX5) (by decide +kernel) rfl rfl (Nat.le_of_ble_eq_true rfl) ?_
  intro p e s m below meth c ls C hK hW hl
  exact k_X5_take_0 C hK hW hl hq
theorem k_X5_taken_0 {Q : Int64 → Prop} {x1 : Int32} {h : hp} (C : kC p s m args meth c cX5_taken 2 (some .long) RX5 wUX5_taken) (hK : kK G s) {H : Heap} {locs : List Loc} {ls : Array Slot} (hW : kW SC G h (aS SC G) s H locs) (hl : lv_has ls 2 [(0, .ref (G.2.2 2)), (1, .int x1)]) (hq : w_X5_taken_0 Q x1 h) : W p l e rmX5_taken s m args below meth c H locs 0 0 (MQ below (va_Ql (fun r9 h9 => h9 = h ∧ Q r9) (kB SC G) (aS SC G)) args s 0 0 (aS SC G)) (F0 m 0 ls []) := by
  have hx := C.1
  have hb := C.2.1
  unfold w_X5_taken_0 at hq
  refine lv_aload_n hx hb dX5_taken_0 rfl (lv_at hl 0 rfl) ?_
  refine gt5_2 C hK hW (rfl : shC 2 = 5) (List.mem_cons_of_mem _ mw45) (fun _ h9 => List.mem_cons_of_mem _ (inU_wsX50 _ h9)) dX5_taken_1 ?_
  refine lv_iload_n hx hb dX5_taken_4 rfl (lv_at hl 1 rfl) ?_
  refine lv_icmp_lt (tgt := 25) hx hb dX5_taken_5 (by decide) (fun c1 => ?_) (fun c1 => ?_)
  · have hq := hq.1 c1
    refine lv_lconst (v := 0) hx hb dX5_taken_25 (by decide) ?_
    exact k_lret rfl C hW dX5_taken_26 ⟨rfl, hq⟩
  · have hq := hq.2 c1
    refine lv_aload_n hx hb dX5_taken_8 rfl (lv_at hl 0 rfl) ?_
    refine gt5_5 C hK hW (rfl : shC 2 = 5) (List.mem_cons_of_mem _ mw52) (fun _ h9 => List.mem_cons_of_mem _ (inU_wsX50 _ h9)) dX5_taken_9 ?_
    refine gt8_2 C hK hW (rfl : shC 3 = 8) (List.mem_cons_of_mem _ mw429) (fun _ h9 => List.mem_cons_of_mem _ (inU_wsX80 _ h9)) dX5_taken_12 ?_
    refine lv_aload_n hx hb dX5_taken_15 rfl (lv_at hl 0 rfl) ?_
    refine gt5_2 C hK hW (rfl : shC 2 = 5) (List.mem_cons_of_mem _ mw45) (fun _ h9 => List.mem_cons_of_mem _ (inU_wsX50 _ h9)) dX5_taken_16 ?_
    refine lv_iload_n hx hb dX5_taken_19 rfl (lv_at hl 1 rfl) ?_
    refine lv_isub hx hb dX5_taken_20 ?_
    refine k_lald C hK hW (shC_lt (rfl : shC 6 = 15) (by decide)) (ceC_15 (rfl : shC 6 = 15) (rfl : lnC 6 = 402)) hq.1 dX5_taken_21 ?_
    have hq := hq.2
    refine lv_goto (tgt := 26) hx hb dX5_taken_22 (by decide) ?_
    exact k_lret rfl C hW dX5_taken_26 ⟨rfl, hq⟩
theorem c_X5_taken (l : Launch) (G : wG) (h : hp) (x1 : Int32) (Q : Int64 → Prop) (hq : w_X5_taken h x1 Q) : ctL l SC G yX5_taken wUX5_taken rmX5_taken h [.ref (G.2.2 2), .int x1] (fun r9 h9 => h9 = h ∧ Q r9) := by
  refine k_start (cc := cX5_taken) (maxL := 2) (rt := (some .long)) (own := RX5) (by decide +kernel) rfl rfl (Nat.le_of_ble_eq_true rfl) ?_
  intro p e s m below meth c ls C hK hW hl
  exact k_X5_taken_0 C hK hW hl hq
theorem k_X7_tellName_b5 {o : Nat} (ho : shC o = 7) {Q : Int32 → hp → Prop} {X5 : Int32 × Int32 → Prop} {x1 : Int64} {h : hp} (C : kC p s m args meth c cX7_tellName 5 (some .boolean) RX7 wUX7_tellName) (hK : kK G s) (hX5 : ∀ (x3 : Int32) (x4 : Int32) (H : Heap) (locs : List Loc) (ls : Array Slot), kW SC G h (aS SC G) s H locs → lv_has ls 5 [(0, .ref (G.2.2 o)), (1, .long x1), (3, .int x3), (4, .int x4)] → X5 (x3, x4) → W p l e rmX7_tellName s m args below meth c H locs 0 0 (MQ below (va_Qi Q (kB SC G) (aS SC G)) args s 0 0 (aS SC G)) (F0 m 5 ls [])) {x3 : Int32} {x4 : Int32} {H : Heap} {locs : List Loc} {ls : Array Slot} (hW : kW SC G h (aS SC G) s H locs) (hl : lv_has ls 5 [(0, .ref (G.2.2 o)), (1, .long x1), (3, .int x3), (4, .int x4)]) (hq : w_X7_tellName_b5 o Q x1 h X5 x3 x4) : W p l e rmX7_tellName s m args below meth c H locs 0 0 (MQ below (va_Qi Q (kB SC G) (aS SC G)) args s 0 0 (aS SC G)) (F0 m 5 ls []) := by
  have hx := C.1
  have hb := C.2.1
  unfold w_X7_tellName_b5 at hq
  refine lv_iload hx hb dX7_tellName_5 (lv_at hl 3 rfl) ?_
  refine lv_aload_n hx hb dX7_tellName_7 rfl (lv_at hl 0 rfl) ?_
  refine gt7_0 C hK hW ho (List.mem_cons_of_mem _ mw61) (fun _ h9 => List.mem_cons_of_mem _ (inU_wsX70 _ h9)) dX7_tellName_8 ?_
  refine lv_icmp_ge (tgt := 34) hx hb dX7_tellName_11 (by decide) (fun c1 => ?_) (fun c1 => ?_)
  · have hq := hq.1 c1
    refine lv_aload_n hx hb dX7_tellName_34 rfl (lv_at hl 0 rfl) ?_
    refine gt7_0 C hK hW ho (List.mem_cons_of_mem _ mw61) (fun _ h9 => List.mem_cons_of_mem _ (inU_wsX70 _ h9)) dX7_tellName_35 ?_
    refine lv_bipush (v := 6) hx hb dX7_tellName_38 (by decide) ?_
    refine lv_icmp_ge (tgt := 53) hx hb dX7_tellName_40 (by decide) (fun c2 => ?_) (fun c2 => ?_)
    · have hq := hq.1 c2
      refine lv_iload_n hx hb dX7_tellName_53 rfl (lv_at hl 2 rfl) ?_
      exact k_zret rfl hq.1.1 C hW dX7_tellName_54 hq.2
    · have hq := hq.2 c2
      refine lv_aload_n hx hb dX7_tellName_43 rfl (lv_at hl 0 rfl) ?_
      refine gt7_2 C hK hW ho (List.mem_cons_of_mem _ mw65) (fun _ h9 => List.mem_cons_of_mem _ (inU_wsX70 _ h9)) dX7_tellName_44 ?_
      refine lv_aload_n hx hb dX7_tellName_47 rfl (lv_at hl 0 rfl) ?_
      refine gt7_0 C hK hW ho (List.mem_cons_of_mem _ mw61) (fun _ h9 => List.mem_cons_of_mem _ (inU_wsX70 _ h9)) dX7_tellName_48 ?_
      refine lv_lload_n hx hb dX7_tellName_51 rfl (lv_at hl 1 rfl) ?_
      refine k_last okC C hK hW (shC_lt (sl7_2 ho).1 (by decide)) (fun g9 => ceC_15 (sl7_2 ho).1 (sl7_2 ho).2) hq.1 dX7_tellName_52 (fun H locs hW => ?_)
      have hq := hq.2
      obtain ⟨h3, eh3⟩ : ∃ z : hp, z = sL h (o + 2) (ix (gI h o 0)) x1 := ⟨_, rfl⟩
      rw [← eh3] at hW
      have hq := hq h3 eh3
      refine lv_iload_n hx hb dX7_tellName_53 rfl (lv_at hl 2 rfl) ?_
      exact k_zret rfl hq.1.1 C hW dX7_tellName_54 hq.2
  · have hq := hq.2 c1
    refine lv_aload_n hx hb dX7_tellName_14 rfl (lv_at hl 0 rfl) ?_
    refine gt7_2 C hK hW ho (List.mem_cons_of_mem _ mw65) (fun _ h9 => List.mem_cons_of_mem _ (inU_wsX70 _ h9)) dX7_tellName_15 ?_
    refine lv_iload hx hb dX7_tellName_18 (lv_at hl 3 rfl) ?_
    refine k_lald C hK hW (shC_lt (sl7_2 ho).1 (by decide)) (ceC_15 (sl7_2 ho).1 (sl7_2 ho).2) hq.1 dX7_tellName_20 ?_
    have hq := hq.2
    refine lv_lload_n hx hb dX7_tellName_21 rfl (lv_at hl 1 rfl) ?_
    refine W.lcmp hx hb dX7_tellName_22 ?_
    refine lv_if_ne (tgt := 28) hx hb dX7_tellName_23 (by decide) (fun c4 => ?_) (fun c4 => ?_)
    · have hq := hq.1 (fun z => c4 ((lg_cmp_eq _ _).mpr z))
      obtain ⟨x4_5, ex4_5⟩ : ∃ y : Int32, y = x4 + 1 := ⟨_, rfl⟩
      have hq := hq x4_5 ex4_5
      refine lv_iinc (v := x4_5) (lv' := [(4, .int x4_5), (0, .ref (G.2.2 o)), (1, .long x1), (3, .int x3)]) hx hb dX7_tellName_28 hl (k := 3) rfl (by rw [ex4_5]; rfl) (by decide) rfl (fun ls hl => ?_)
      refine lv_goto (tgt := 5) hx hb dX7_tellName_31 (by decide) ?_
      exact hX5 _ _ _ _ _ hW (lv_sub hl [1, 2, 3, 0] rfl) hq
    · have hq := hq.2 ((lg_cmp_eq _ _).mp c4)
      refine lv_iconst (v := 0) hx hb dX7_tellName_26 (by decide) ?_
      refine lv_istore_n (lv' := [(3, .int 0), (0, .ref (G.2.2 o)), (1, .long x1), (4, .int x4)]) hx hb dX7_tellName_27 rfl hl (by decide) rfl (fun ls hl => ?_)
      obtain ⟨x4_6, ex4_6⟩ : ∃ y : Int32, y = x4 + 1 := ⟨_, rfl⟩
      have hq := hq x4_6 ex4_6
      refine lv_iinc (v := x4_6) (lv' := [(4, .int x4_6), (3, .int 0), (0, .ref (G.2.2 o)), (1, .long x1)]) hx hb dX7_tellName_28 hl (k := 3) rfl (by rw [ex4_6]; rfl) (by decide) rfl (fun ls hl => ?_)
      refine lv_goto (tgt := 5) hx hb dX7_tellName_31 (by decide) ?_
      exact hX5 _ _ _ _ _ hW (lv_sub hl [2, 3, 1, 0] rfl) hq
theorem k_X7_tellName_5 {o : Nat} (ho : shC o = 7) {Q : Int32 → hp → Prop} {x1 : Int64} {h : hp} (C : kC p s m args meth c cX7_tellName 5 (some .boolean) RX7 wUX7_tellName) (hK : kK G s) {x3 : Int32} {x4 : Int32} {H : Heap} {locs : List Loc} {ls : Array Slot} (hW : kW SC G h (aS SC G) s H locs) (hl : lv_has ls 5 [(0, .ref (G.2.2 o)), (1, .long x1), (3, .int x3), (4, .int x4)]) (hq : w_X7_tellName_5 o Q x1 h x3 x4) : W p l e rmX7_tellName s m args below meth c H locs 0 0 (MQ below (va_Qi Q (kB SC G) (aS SC G)) args s 0 0 (aS SC G)) (F0 m 5 ls []) := by
  have key := hq (fun (q : Int32 × Int32) => ∀ (H : Heap) (locs : List Loc) (ls : Array Slot), kW SC G h (aS SC G) s H locs → lv_has ls 5 [(0, .ref (G.2.2 o)), (1, .long x1), (3, .int q.1), (4, .int q.2)] → W p l e rmX7_tellName s m args below meth c H locs 0 0 (MQ below (va_Qi Q (kB SC G) (aS SC G)) args s 0 0 (aS SC G)) (F0 m 5 ls []))
    (fun q hq H locs ls hW hl => k_X7_tellName_b5 ho C hK (fun x3 x4 H locs ls hW hl hI => hI H locs ls hW hl) hW hl hq)
  exact key _ _ _ hW hl
theorem k_X7_tellName_0 {o : Nat} (ho : shC o = 7) {Q : Int32 → hp → Prop} {x1 : Int64} {h : hp} (C : kC p s m args meth c cX7_tellName 5 (some .boolean) RX7 wUX7_tellName) (hK : kK G s) {H : Heap} {locs : List Loc} {ls : Array Slot} (hW : kW SC G h (aS SC G) s H locs) (hl : lv_has ls 5 [(0, .ref (G.2.2 o)), (1, .long x1)]) (hq : w_X7_tellName_0 o Q x1 h) : W p l e rmX7_tellName s m args below meth c H locs 0 0 (MQ below (va_Qi Q (kB SC G) (aS SC G)) args s 0 0 (aS SC G)) (F0 m 0 ls []) := by
  have hx := C.1
  have hb := C.2.1
  unfold w_X7_tellName_0 at hq
  refine lv_iconst (v := 1) hx hb dX7_tellName_0 (by decide) ?_
  refine lv_istore_n (lv' := [(3, .int 1), (0, .ref (G.2.2 o)), (1, .long x1)]) hx hb dX7_tellName_1 rfl hl (by decide) rfl (fun ls hl => ?_)
  refine lv_iconst (v := 0) hx hb dX7_tellName_2 (by decide) ?_
  refine lv_istore (lv' := [(4, .int 0), (3, .int 1), (0, .ref (G.2.2 o)), (1, .long x1)]) hx hb dX7_tellName_3 hl (by decide) rfl (fun ls hl => ?_)
  exact k_X7_tellName_5 ho C hK hW (lv_sub hl [2, 3, 1, 0] rfl) hq
theorem c_X7_tellName (l : Launch) (G : wG) {o : Nat} (ho : shC o = 7) (h : hp) (x1 : Int64) (Q : Int32 → hp → Prop) (hq : w_X7_tellName o h x1 Q) : ctI l SC G yX7_tellName wUX7_tellName rmX7_tellName h [.ref (G.2.2 o), .long x1] Q := by
  refine k_start (cc := cX7_tellName) (maxL := 5) (rt := (some .boolean)) (own := RX7) (by decide +kernel) rfl rfl (Nat.le_of_ble_eq_true rfl) ?_
  intro p e s m below meth c ls C hK hW hl
  exact k_X7_tellName_0 ho C hK hW hl hq
theorem k_X5_note_0 {Q : hp → Prop} {x1 : Int32} {x2 : Int32} {h : hp} (C : kC p s m args meth c cX5_note 3 none RX5 wUX5_note) (hK : kK G s) {H : Heap} {locs : List Loc} {ls : Array Slot} (hW : kW SC G h (aS SC G) s H locs) (hl : lv_has ls 3 [(0, .ref (G.2.2 2)), (1, .int x1), (2, .int x2)]) (hq : w_X5_note_0 Q x1 x2 h) : W p l e rmX5_note s m args below meth c H locs 0 0 (MQ below (va_Qv Q (kB SC G) (aS SC G)) args s 0 0 (aS SC G)) (F0 m 0 ls []) := by
  have hx := C.1
  have hb := C.2.1
  unfold w_X5_note_0 at hq
  refine lv_aload_n hx hb dX5_note_0 rfl (lv_at hl 0 rfl) ?_
  refine gt5_1 C hK hW (rfl : shC 2 = 5) (List.mem_cons_of_mem _ mw44) (fun _ h9 => List.mem_cons_of_mem _ (inU_wsX50 _ h9)) dX5_note_1 ?_
  refine lv_if_ne (tgt := 38) hx hb dX5_note_4 (by decide) (fun c1 => ?_) (fun c1 => ?_)
  · have hq := hq.1 c1
    exact k_vret rfl C hW dX5_note_38 hq
  · have hq := hq.2 c1
    refine lv_aload_n hx hb dX5_note_7 rfl (lv_at hl 0 rfl) ?_
    refine gt5_2 C hK hW (rfl : shC 2 = 5) (List.mem_cons_of_mem _ mw45) (fun _ h9 => List.mem_cons_of_mem _ (inU_wsX50 _ h9)) dX5_note_8 ?_
    refine lv_iload_n hx hb dX5_note_11 rfl (lv_at hl 2 rfl) ?_
    refine lv_icmp_lt (tgt := 38) hx hb dX5_note_12 (by decide) (fun c2 => ?_) (fun c2 => ?_)
    · have hq := hq.1 c2
      exact k_vret rfl C hW dX5_note_38 hq
    · have hq := hq.2 c2
      refine lv_aload_n hx hb dX5_note_15 rfl (lv_at hl 0 rfl) ?_
      refine lv_iload_n hx hb dX5_note_16 rfl (lv_at hl 1 rfl) ?_
      refine pt5_1 C hK hW (rfl : shC 2 = 5) (List.mem_cons_of_mem _ mw44) (fun _ h9 => List.mem_cons_of_mem _ (inU_wsX50 _ h9)) dX5_note_17 (fun h3 H locs eh3 hW => ?_)
      have hq := hq h3 eh3
      refine lv_aload_n hx hb dX5_note_20 rfl (lv_at hl 0 rfl) ?_
      refine lv_aload_n hx hb dX5_note_21 rfl (lv_at hl 0 rfl) ?_
      refine gt5_5 C hK hW (rfl : shC 2 = 5) (List.mem_cons_of_mem _ mw52) (fun _ h9 => List.mem_cons_of_mem _ (inU_wsX50 _ h9)) dX5_note_22 ?_
      refine gt8_1 C hK hW (rfl : shC 3 = 8) (List.mem_cons_of_mem _ mw410) (fun _ h9 => List.mem_cons_of_mem _ (inU_wsX80 _ h9)) dX5_note_25 ?_
      refine lv_aload_n hx hb dX5_note_28 rfl (lv_at hl 0 rfl) ?_
      refine gt5_2 C hK hW (rfl : shC 2 = 5) (List.mem_cons_of_mem _ mw45) (fun _ h9 => List.mem_cons_of_mem _ (inU_wsX50 _ h9)) dX5_note_29 ?_
      refine lv_iload_n hx hb dX5_note_32 rfl (lv_at hl 2 rfl) ?_
      refine lv_isub hx hb dX5_note_33 ?_
      refine k_iald C hK hW (shC_lt (rfl : shC 5 = 14) (by decide)) (ceC_14 (rfl : shC 5 = 14) (rfl : lnC 5 = 402)) hq.1 dX5_note_34 ?_
      have hq := hq.2
      refine pt5_0 C hK hW (rfl : shC 2 = 5) (List.mem_cons_of_mem _ mw43) (fun _ h9 => List.mem_cons_of_mem _ (inU_wsX50 _ h9)) dX5_note_35 (fun h4 H locs eh4 hW => ?_)
      have hq := hq h4 eh4
      exact k_vret rfl C hW dX5_note_38 hq
theorem c_X5_note (l : Launch) (G : wG) (h : hp) (x1 : Int32) (x2 : Int32) (Q : hp → Prop) (hq : w_X5_note h x1 x2 Q) : ctV l SC G yX5_note wUX5_note rmX5_note h [.ref (G.2.2 2), .int x1, .int x2] Q := by
  refine k_start (cc := cX5_note) (maxL := 3) (rt := none) (own := RX5) (by decide +kernel) rfl rfl (Nat.le_of_ble_eq_true rfl) ?_
  intro p e s m below meth c ls C hK hW hl
  exact k_X5_note_0 C hK hW hl hq
theorem k_X5_takeName_0 {Q : Int32 → hp → Prop} {h : hp} (C : kC p s m args meth c cX5_takeName 1 (some .boolean) RX5 wUX5_takeName) (hK : kK G s) {H : Heap} {locs : List Loc} {ls : Array Slot} (hW : kW SC G h (aS SC G) s H locs) (hl : lv_has ls 1 [(0, .ref (G.2.2 2))]) (hq : w_X5_takeName_0 Q h) : W p l e rmX5_takeName s m args below meth c H locs 0 0 (MQ below (va_Qi Q (kB SC G) (aS SC G)) args s 0 0 (aS SC G)) (F0 m 0 ls []) := by
  have hx := C.1
  have hb := C.2.1
  unfold w_X5_takeName_0 at hq
  refine lv_aload_n hx hb dX5_takeName_0 rfl (lv_at hl 0 rfl) ?_
  refine lv_iconst (v := 2) hx hb dX5_takeName_1 (by decide) ?_
  refine k_ci hW (va_runV (As := [.int 2]) (rest := []) (k_fix C) (c_X5_take l G h 2 _ hq) (cwV 1 C.2.2.2.2.2.1 (gU_V mw417 mw418 mw419 mw19 mw420) rfl rfl rfl (by decide +kernel) ⟨Nat.le_of_ble_eq_true rfl, Nat.le_of_ble_eq_true rfl⟩) (k_preV hK hW (shC_lt (rfl : shC 2 = 5) (by decide)) (ceC_5 (rfl : shC 2 = 5)) (q := (RX5, TX5, 7)) rfl) rfl rfl hl.1 rfl (lv_room (Nat.le_of_ble_eq_true rfl)) dX5_takeName_2 ⟨Nat.le_refl 0, Nat.le_refl 0⟩) (fun r2 h1 H locs hq hW => ?_)
  refine lv_if_ne (tgt := 10) hx hb dX5_takeName_5 (by decide) (fun c3 => ?_) (fun c3 => ?_)
  · have hq := hq.1 c3
    refine lv_aload_n hx hb dX5_takeName_10 rfl (lv_at hl 0 rfl) ?_
    refine gt5_4 C hK hW (rfl : shC 2 = 5) (List.mem_cons_of_mem _ mw48) (fun _ h9 => List.mem_cons_of_mem _ (inU_wsX50 _ h9)) dX5_takeName_11 ?_
    have hr4 := hq.1
    have hq := hq.2
    refine lv_aload_n hx hb dX5_takeName_14 rfl (lv_at hl 0 rfl) ?_
    refine lv_iconst (v := 1) hx hb dX5_takeName_15 (by decide) ?_
    refine k_cl hW (va_runV (As := [.int 1]) (rest := [.ref (G.2.2 (gR h1 1))]) (k_fix C) (c_X5_taken l G h1 1 _ hq) (cwV 1 C.2.2.2.2.2.1 (gU_V mw425 mw426 mw427 mw19 mw428) rfl rfl rfl (by decide +kernel) ⟨Nat.le_of_ble_eq_true rfl, Nat.le_of_ble_eq_true rfl⟩) (k_preV hK hW (shC_lt (rfl : shC 2 = 5) (by decide)) (ceC_5 (rfl : shC 2 = 5)) (q := (RX5, TX5, 7)) rfl) rfl rfl hl.1 rfl (lv_room (Nat.le_of_ble_eq_true rfl)) dX5_takeName_16 ⟨Nat.le_refl 0, Nat.le_refl 0⟩) (fun r5 h6 H locs hq hW => ?_)
    rw [hq.1] at hW
    have hq := hq.2
    refine k_ci hW (va_runV (As := [.long r5]) (rest := []) (k_fix C) (c_X7_tellName l G hr4 h1 r5 _ hq) (cwV 1 C.2.2.2.2.2.1 (gU_V mw430 mw431 mw432 mw23 mw433) rfl rfl rfl (by decide +kernel) ⟨Nat.le_of_ble_eq_true rfl, Nat.le_of_ble_eq_true rfl⟩) (k_preV hK hW (shC_lt hr4 (by decide)) (ceC_7 hr4) (q := (RX7, TX7, 10)) rfl) rfl rfl hl.1 rfl (lv_room (Nat.le_of_ble_eq_true rfl)) dX5_takeName_19 ⟨Nat.le_refl 0, Nat.le_refl 0⟩) (fun r8 h7 H locs hq hW => ?_)
    refine lv_if_ne (tgt := 31) hx hb dX5_takeName_22 (by decide) (fun c9 => ?_) (fun c9 => ?_)
    · have hq := hq.1 c9
      refine lv_iconst (v := 1) hx hb dX5_takeName_31 (by decide) ?_
      exact k_zret rfl isZ_1.1 C hW dX5_takeName_32 hq
    · have hq := hq.2 c9
      refine lv_aload_n hx hb dX5_takeName_25 rfl (lv_at hl 0 rfl) ?_
      refine lv_iconst (v := 3) hx hb dX5_takeName_26 (by decide) ?_
      refine lv_iconst (v := 1) hx hb dX5_takeName_27 (by decide) ?_
      refine k_cv hW (va_runV (As := [.int 3, .int 1]) (rest := []) (k_fix C) (c_X5_note l G h7 3 1 _ hq) (cwV 2 C.2.2.2.2.2.1 (gU_V mw434 mw435 mw436 mw19 mw437) rfl rfl rfl (by decide +kernel) ⟨Nat.le_of_ble_eq_true rfl, Nat.le_of_ble_eq_true rfl⟩) (k_preV hK hW (shC_lt (rfl : shC 2 = 5) (by decide)) (ceC_5 (rfl : shC 2 = 5)) (q := (RX5, TX5, 7)) rfl) rfl rfl hl.1 rfl (lv_room (Nat.le_of_ble_eq_true rfl)) dX5_takeName_28 ⟨Nat.le_refl 0, Nat.le_refl 0⟩) (fun h10 H locs hq hW => ?_)
      refine lv_iconst (v := 1) hx hb dX5_takeName_31 (by decide) ?_
      exact k_zret rfl isZ_1.1 C hW dX5_takeName_32 hq
  · have hq := hq.2 c3
    refine lv_iconst (v := 0) hx hb dX5_takeName_8 (by decide) ?_
    exact k_zret rfl isZ_0.1 C hW dX5_takeName_9 hq
theorem c_X5_takeName (l : Launch) (G : wG) (h : hp) (Q : Int32 → hp → Prop) (hq : w_X5_takeName h Q) : ctI l SC G yX5_takeName wUX5_takeName rmX5_takeName h [.ref (G.2.2 2)] Q := by
  refine k_start (cc := cX5_takeName) (maxL := 1) (rt := (some .boolean)) (own := RX5) (by decide +kernel) rfl rfl (Nat.le_of_ble_eq_true rfl) ?_
  intro p e s m below meth c ls C hK hW hl
  exact k_X5_takeName_0 C hK hW hl hq
theorem k_X11_within_0 {Q : Int32 → Prop} {x0 : Int64} {x2 : Int64} {x4 : Int64} {h : hp} (C : kC p s m args meth c cX11_within 6 (some .boolean) RX11 wUX11_within) (hK : kK G s) {H : Heap} {locs : List Loc} {ls : Array Slot} (hW : kW SC G h (aS SC G) s H locs) (hl : lv_has ls 6 [(0, .long x0), (2, .long x2), (4, .long x4)]) (hq : w_X11_within_0 Q x0 x2 x4) : W p l e rmX11_within s m args below meth c H locs 0 0 (MQ below (va_Qi (fun r9 h9 => h9 = h ∧ Q r9) (kB SC G) (aS SC G)) args s 0 0 (aS SC G)) (F0 m 0 ls []) := by
  have hx := C.1
  have hb := C.2.1
  unfold w_X11_within_0 at hq
  refine lv_lload_n hx hb dX11_within_0 rfl (lv_at hl 0 rfl) ?_
  refine lv_lload_n hx hb dX11_within_1 rfl (lv_at hl 1 rfl) ?_
  refine W.lcmp hx hb dX11_within_2 ?_
  refine lv_if_lt (tgt := 17) hx hb dX11_within_3 (by decide) (fun c1 => ?_) (fun c1 => ?_)
  · have hq := hq.1 ((lg_cmp_lt _ _).mp c1)
    refine lv_iconst (v := 0) hx hb dX11_within_17 (by decide) ?_
    exact k_zret rfl isZ_0.1 C hW dX11_within_18 ⟨rfl, hq⟩
  · have hq := hq.2 (fun z => c1 ((lg_cmp_lt _ _).mpr z))
    refine lv_lload_n hx hb dX11_within_6 rfl (lv_at hl 0 rfl) ?_
    refine lv_lload hx hb dX11_within_7 (lv_at hl 2 rfl) ?_
    refine W.lcmp hx hb dX11_within_9 ?_
    refine lv_if_gt (tgt := 17) hx hb dX11_within_10 (by decide) (fun c2 => ?_) (fun c2 => ?_)
    · have hq := hq.1 ((lg_cmp_gt _ _).mp c2)
      refine lv_iconst (v := 0) hx hb dX11_within_17 (by decide) ?_
      exact k_zret rfl isZ_0.1 C hW dX11_within_18 ⟨rfl, hq⟩
    · have hq := hq.2 (fun z => c2 ((lg_cmp_gt _ _).mpr z))
      refine lv_iconst (v := 1) hx hb dX11_within_13 (by decide) ?_
      refine lv_goto (tgt := 18) hx hb dX11_within_14 (by decide) ?_
      exact k_zret rfl isZ_1.1 C hW dX11_within_18 ⟨rfl, hq⟩
theorem c_X11_within (l : Launch) (G : wG) (h : hp) (x0 : Int64) (x2 : Int64) (x4 : Int64) (Q : Int32 → Prop) (hq : w_X11_within x0 x2 x4 Q) : ctI l SC G yX11_within wUX11_within rmX11_within h [.long x0, .long x2, .long x4] (fun r9 h9 => h9 = h ∧ Q r9) := by
  refine k_start (cc := cX11_within) (maxL := 6) (rt := (some .boolean)) (own := RX11) (by decide +kernel) rfl rfl (Nat.le_of_ble_eq_true rfl) ?_
  intro p e s m below meth c ls C hK hW hl
  exact k_X11_within_0 C hK hW hl hq
theorem k_X5_takenWithin_0 {Q : Int32 → hp → Prop} {x1 : Int32} {x2 : Int32} {x3 : Int32} {h : hp} (C : kC p s m args meth c cX5_takenWithin 5 (some .boolean) RX5 wUX5_takenWithin) (hK : kK G s) {H : Heap} {locs : List Loc} {ls : Array Slot} (hW : kW SC G h (aS SC G) s H locs) (hl : lv_has ls 5 [(0, .ref (G.2.2 2)), (1, .int x1), (2, .int x2), (3, .int x3)]) (hq : w_X5_takenWithin_0 Q x1 x2 x3 h) : W p l e rmX5_takenWithin s m args below meth c H locs 0 0 (MQ below (va_Qi Q (kB SC G) (aS SC G)) args s 0 0 (aS SC G)) (F0 m 0 ls []) := by
  have hx := C.1
  have hb := C.2.1
  unfold w_X5_takenWithin_0 at hq
  refine lv_aload_n hx hb dX5_takenWithin_0 rfl (lv_at hl 0 rfl) ?_
  refine lv_iload_n hx hb dX5_takenWithin_1 rfl (lv_at hl 1 rfl) ?_
  refine k_cl hW (va_runV (As := [.int x1]) (rest := []) (k_fix C) (c_X5_taken l G h x1 _ hq) (cwV 1 C.2.2.2.2.2.1 (gU_V mw425 mw426 mw427 mw19 mw428) rfl rfl rfl (by decide +kernel) ⟨Nat.le_of_ble_eq_true rfl, Nat.le_of_ble_eq_true rfl⟩) (k_preV hK hW (shC_lt (rfl : shC 2 = 5) (by decide)) (ceC_5 (rfl : shC 2 = 5)) (q := (RX5, TX5, 7)) rfl) rfl rfl hl.1 rfl (lv_room (Nat.le_of_ble_eq_true rfl)) dX5_takenWithin_2 ⟨Nat.le_refl 0, Nat.le_refl 0⟩) (fun r1 h2 H locs hq hW => ?_)
  rw [hq.1] at hW
  have hq := hq.2
  refine lv_iload_n hx hb dX5_takenWithin_5 rfl (lv_at hl 2 rfl) ?_
  refine lv_i2l (v := x2.toInt64) hx hb dX5_takenWithin_6 rfl ?_
  refine lv_iload_n hx hb dX5_takenWithin_7 rfl (lv_at hl 3 rfl) ?_
  refine lv_i2l (v := x3.toInt64) hx hb dX5_takenWithin_8 rfl ?_
  refine k_ci hW (va_runSN (As := [.long r1, .long (x2.toInt64), .long (x3.toInt64)]) (rest := []) (k_fix C) (c_X11_within l G h r1 (x2.toInt64) (x3.toInt64) _ hq) ⟨va_cnB 3 C.2.2.2.2.2.1 (gU_C mw447) rfl rfl rfl (hK.2.1 _ (List.mem_of_getElem? (i := 0) rfl)) (C.2.2.2.2.2.1 _ (List.mem_cons_of_mem _ mw2)) (by decide +kernel) ⟨Nat.le_of_ble_eq_true rfl, Nat.le_of_ble_eq_true rfl⟩, (C.2.2.2.2.2.1 _ (List.mem_cons_of_mem _ mw446)), trivial⟩ (k_preS hK hW) rfl rfl hl.1 rfl (lv_room (Nat.le_of_ble_eq_true rfl)) dX5_takenWithin_9 ⟨Nat.le_refl 0, Nat.le_refl 0⟩) (fun r3 h4 H locs hq hW => ?_)
  rw [hq.1] at hW
  have hq := hq.2
  refine lv_istore (lv' := [(4, .int r3), (0, .ref (G.2.2 2)), (1, .int x1), (2, .int x2), (3, .int x3)]) hx hb dX5_takenWithin_12 hl (by decide) rfl (fun ls hl => ?_)
  refine lv_iload hx hb dX5_takenWithin_14 (lv_at hl 0 rfl) ?_
  refine lv_if_ne (tgt := 25) hx hb dX5_takenWithin_16 (by decide) (fun c5 => ?_) (fun c5 => ?_)
  · have hq := hq.1 c5
    refine lv_iload hx hb dX5_takenWithin_25 (lv_at hl 0 rfl) ?_
    exact k_zret rfl hq.1.1 C hW dX5_takenWithin_27 hq.2
  · have hq := hq.2 c5
    refine lv_aload_n hx hb dX5_takenWithin_19 rfl (lv_at hl 1 rfl) ?_
    refine lv_iconst (v := 5) hx hb dX5_takenWithin_20 (by decide) ?_
    refine lv_iload_n hx hb dX5_takenWithin_21 rfl (lv_at hl 2 rfl) ?_
    refine k_cv hW (va_runV (As := [.int 5, .int x1]) (rest := []) (k_fix C) (c_X5_note l G h 5 x1 _ hq) (cwV 2 C.2.2.2.2.2.1 (gU_V mw434 mw435 mw436 mw19 mw437) rfl rfl rfl (by decide +kernel) ⟨Nat.le_of_ble_eq_true rfl, Nat.le_of_ble_eq_true rfl⟩) (k_preV hK hW (shC_lt (rfl : shC 2 = 5) (by decide)) (ceC_5 (rfl : shC 2 = 5)) (q := (RX5, TX5, 7)) rfl) rfl rfl hl.1 rfl (lv_room (Nat.le_of_ble_eq_true rfl)) dX5_takenWithin_22 ⟨Nat.le_refl 0, Nat.le_refl 0⟩) (fun h6 H locs hq hW => ?_)
    refine lv_iload hx hb dX5_takenWithin_25 (lv_at hl 0 rfl) ?_
    exact k_zret rfl hq.1.1 C hW dX5_takenWithin_27 hq.2
theorem c_X5_takenWithin (l : Launch) (G : wG) (h : hp) (x1 : Int32) (x2 : Int32) (x3 : Int32) (Q : Int32 → hp → Prop) (hq : w_X5_takenWithin h x1 x2 x3 Q) : ctI l SC G yX5_takenWithin wUX5_takenWithin rmX5_takenWithin h [.ref (G.2.2 2), .int x1, .int x2, .int x3] Q := by
  refine k_start (cc := cX5_takenWithin) (maxL := 5) (rt := (some .boolean)) (own := RX5) (by decide +kernel) rfl rfl (Nat.le_of_ble_eq_true rfl) ?_
  intro p e s m below meth c ls C hK hW hl
  exact k_X5_takenWithin_0 C hK hW hl hq
theorem k_X5_noteSize_22 {Q : Int32 → hp → Prop} {h : hp} {s0 : Int32} (C : kC p s m args meth c cX5_noteSize 1 (some .boolean) RX5 wUX5_noteSize) (hK : kK G s) {H : Heap} {locs : List Loc} {ls : Array Slot} (hW : kW SC G h (aS SC G) s H locs) (hl : lv_has ls 1 []) (hq : w_X5_noteSize_22 Q h s0) : W p l e rmX5_noteSize s m args below meth c H locs 0 0 (MQ below (va_Qi Q (kB SC G) (aS SC G)) args s 0 0 (aS SC G)) (F0 m 22 ls [.int s0, .ref (G.2.2 2)]) := by
  have hx := C.1
  have hb := C.2.1
  unfold w_X5_noteSize_22 at hq
  refine pt5_3 C hK hW (rfl : shC 2 = 5) (List.mem_cons_of_mem _ mw46) (fun _ h9 => List.mem_cons_of_mem _ (inU_wsX50 _ h9)) dX5_noteSize_22 (fun h6 H locs eh6 hW => ?_)
  have hq := hq h6 eh6
  refine lv_iconst (v := 1) hx hb dX5_noteSize_25 (by decide) ?_
  exact k_zret rfl isZ_1.1 C hW dX5_noteSize_26 hq
theorem k_X5_noteSize_0 {Q : Int32 → hp → Prop} {h : hp} (C : kC p s m args meth c cX5_noteSize 1 (some .boolean) RX5 wUX5_noteSize) (hK : kK G s) {H : Heap} {locs : List Loc} {ls : Array Slot} (hW : kW SC G h (aS SC G) s H locs) (hl : lv_has ls 1 [(0, .ref (G.2.2 2))]) (hq : w_X5_noteSize_0 Q h) : W p l e rmX5_noteSize s m args below meth c H locs 0 0 (MQ below (va_Qi Q (kB SC G) (aS SC G)) args s 0 0 (aS SC G)) (F0 m 0 ls []) := by
  have hx := C.1
  have hb := C.2.1
  unfold w_X5_noteSize_0 at hq
  refine lv_aload_n hx hb dX5_noteSize_0 rfl (lv_at hl 0 rfl) ?_
  refine lv_aload_n hx hb dX5_noteSize_1 rfl (lv_at hl 0 rfl) ?_
  refine lv_iconst (v := 1) hx hb dX5_noteSize_2 (by decide) ?_
  refine lv_iconst (v := 1) hx hb dX5_noteSize_3 (by decide) ?_
  refine lv_bipush (v := 6) hx hb dX5_noteSize_4 (by decide) ?_
  refine k_ci hW (va_runV (As := [.int 1, .int 1, .int 6]) (rest := [.ref (G.2.2 2)]) (k_fix C) (c_X5_takenWithin l G h 1 1 6 _ hq) (cwV 3 C.2.2.2.2.2.1 (gU_V mw442 mw443 mw444 mw19 mw445) rfl rfl rfl (by decide +kernel) ⟨Nat.le_of_ble_eq_true rfl, Nat.le_of_ble_eq_true rfl⟩) (k_preV hK hW (shC_lt (rfl : shC 2 = 5) (by decide)) (ceC_5 (rfl : shC 2 = 5)) (q := (RX5, TX5, 7)) rfl) rfl rfl hl.1 rfl (lv_room (Nat.le_of_ble_eq_true rfl)) dX5_noteSize_6 ⟨Nat.le_refl 0, Nat.le_refl 0⟩) (fun r2 h1 H locs hq hW => ?_)
  refine lv_if_eq (tgt := 21) hx hb dX5_noteSize_9 (by decide) (fun c3 => ?_) (fun c3 => ?_)
  · have hq := hq.1 c3
    refine lv_iconst (v := 0) hx hb dX5_noteSize_21 (by decide) ?_
    exact k_X5_noteSize_22 C hK hW (lv_sub hl [] rfl) hq
  · have hq := hq.2 c3
    refine lv_aload_n hx hb dX5_noteSize_12 rfl (lv_at hl 0 rfl) ?_
    refine lv_iconst (v := 1) hx hb dX5_noteSize_13 (by decide) ?_
    refine k_cl hW (va_runV (As := [.int 1]) (rest := [.ref (G.2.2 2)]) (k_fix C) (c_X5_taken l G h1 1 _ hq) (cwV 1 C.2.2.2.2.2.1 (gU_V mw425 mw426 mw427 mw19 mw428) rfl rfl rfl (by decide +kernel) ⟨Nat.le_of_ble_eq_true rfl, Nat.le_of_ble_eq_true rfl⟩) (k_preV hK hW (shC_lt (rfl : shC 2 = 5) (by decide)) (ceC_5 (rfl : shC 2 = 5)) (q := (RX5, TX5, 7)) rfl) rfl rfl hl.1 rfl (lv_room (Nat.le_of_ble_eq_true rfl)) dX5_noteSize_14 ⟨Nat.le_refl 0, Nat.le_refl 0⟩) (fun r4 h5 H locs hq hW => ?_)
    rw [hq.1] at hW
    have hq := hq.2
    refine lv_l2i (v := r4.toInt32) hx hb dX5_noteSize_17 rfl ?_
    refine lv_goto (tgt := 22) hx hb dX5_noteSize_18 (by decide) ?_
    exact k_X5_noteSize_22 C hK hW (lv_sub hl [] rfl) hq
theorem c_X5_noteSize (l : Launch) (G : wG) (h : hp) (Q : Int32 → hp → Prop) (hq : w_X5_noteSize h Q) : ctI l SC G yX5_noteSize wUX5_noteSize rmX5_noteSize h [.ref (G.2.2 2)] Q := by
  refine k_start (cc := cX5_noteSize) (maxL := 1) (rt := (some .boolean)) (own := RX5) (by decide +kernel) rfl rfl (Nat.le_of_ble_eq_true rfl) ?_
  intro p e s m below meth c ls C hK hW hl
  exact k_X5_noteSize_0 C hK hW hl hq
theorem k_X5_readLaw_78 {Q : Int32 → hp → Prop} {X20 : Int32 × hp → Prop} {x1 : Int32} {h : hp} {s0 : Int32} (C : kC p s m args meth c cX5_readLaw 3 (some .boolean) RX5 wUX5_readLaw) (hK : kK G s) (hX20 : ∀ (x1 : Int32) (h : hp) (H : Heap) (locs : List Loc) (ls : Array Slot), kW SC G h (aS SC G) s H locs → lv_has ls 3 [(0, .ref (G.2.2 2)), (1, .int x1)] → X20 (x1, h) → W p l e rmX5_readLaw s m args below meth c H locs 0 0 (MQ below (va_Qi Q (kB SC G) (aS SC G)) args s 0 0 (aS SC G)) (F0 m 20 ls [])) {H : Heap} {locs : List Loc} {ls : Array Slot} (hW : kW SC G h (aS SC G) s H locs) (hl : lv_has ls 3 [(0, .ref (G.2.2 2)), (1, .int x1)]) (hq : w_X5_readLaw_78 Q X20 x1 h s0) : W p l e rmX5_readLaw s m args below meth c H locs 0 0 (MQ below (va_Qi Q (kB SC G) (aS SC G)) args s 0 0 (aS SC G)) (F0 m 78 ls [.int s0]) := by
  have hx := C.1
  have hb := C.2.1
  unfold w_X5_readLaw_78 at hq
  refine lv_istore_n (lv' := [(2, .int s0), (0, .ref (G.2.2 2)), (1, .int x1)]) hx hb dX5_readLaw_78 rfl hl (by decide) rfl (fun ls hl => ?_)
  refine lv_iload_n hx hb dX5_readLaw_79 rfl (lv_at hl 0 rfl) ?_
  refine lv_if_eq (tgt := 89) hx hb dX5_readLaw_80 (by decide) (fun c18 => ?_) (fun c18 => ?_)
  · have hq := hq.1 c18
    refine lv_aload_n hx hb dX5_readLaw_89 rfl (lv_at hl 1 rfl) ?_
    refine lv_aload_n hx hb dX5_readLaw_90 rfl (lv_at hl 1 rfl) ?_
    refine k_ci hW (va_runV (As := []) (rest := [.ref (G.2.2 2)]) (k_fix C) (c_X5_kind l G h _ hq) (cwV 0 C.2.2.2.2.2.1 (gU_V mw397 mw398 mw399 mw19 mw400) rfl rfl rfl (by decide +kernel) ⟨Nat.le_of_ble_eq_true rfl, Nat.le_of_ble_eq_true rfl⟩) (k_preV hK hW (shC_lt (rfl : shC 2 = 5) (by decide)) (ceC_5 (rfl : shC 2 = 5)) (q := (RX5, TX5, 7)) rfl) rfl rfl hl.1 rfl (lv_room (Nat.le_of_ble_eq_true rfl)) dX5_readLaw_91 ⟨Nat.le_refl 0, Nat.le_refl 0⟩) (fun r19 h20 H locs hq hW => ?_)
    rw [hq.1] at hW
    have hq := hq.2
    refine k_ci hW (va_runV (As := [.int r19]) (rest := []) (k_fix C) (c_X5_take l G h r19 _ hq) (cwV 1 C.2.2.2.2.2.1 (gU_V mw417 mw418 mw419 mw19 mw420) rfl rfl rfl (by decide +kernel) ⟨Nat.le_of_ble_eq_true rfl, Nat.le_of_ble_eq_true rfl⟩) (k_preV hK hW (shC_lt (rfl : shC 2 = 5) (by decide)) (ceC_5 (rfl : shC 2 = 5)) (q := (RX5, TX5, 7)) rfl) rfl rfl hl.1 rfl (lv_room (Nat.le_of_ble_eq_true rfl)) dX5_readLaw_94 ⟨Nat.le_refl 0, Nat.le_refl 0⟩) (fun r22 h21 H locs hq hW => ?_)
    refine lv_if_ne (tgt := 102) hx hb dX5_readLaw_97 (by decide) (fun c23 => ?_) (fun c23 => ?_)
    · have hq := hq.1 c23
      obtain ⟨x1_24, ex1_24⟩ : ∃ y : Int32, y = x1 + 1 := ⟨_, rfl⟩
      have hq := hq x1_24 ex1_24
      refine lv_iinc (v := x1_24) (lv' := [(1, .int x1_24), (2, .int s0), (0, .ref (G.2.2 2))]) hx hb dX5_readLaw_102 hl (k := 2) rfl (by rw [ex1_24]; rfl) (by decide) rfl (fun ls hl => ?_)
      refine lv_goto (tgt := 20) hx hb dX5_readLaw_105 (by decide) ?_
      exact hX20 _ _ _ _ _ hW (lv_sub hl [2, 0] rfl) hq
    · have hq := hq.2 c23
      refine lv_iconst (v := 0) hx hb dX5_readLaw_100 (by decide) ?_
      exact k_zret rfl isZ_0.1 C hW dX5_readLaw_101 hq
  · have hq := hq.2 c18
    refine lv_aload_n hx hb dX5_readLaw_83 rfl (lv_at hl 1 rfl) ?_
    refine lv_iload_n hx hb dX5_readLaw_84 rfl (lv_at hl 0 rfl) ?_
    refine k_ci hW (va_runV (As := [.int s0]) (rest := []) (k_fix C) (c_X5_stop l G h s0 _ hq) (cwV 1 C.2.2.2.2.2.1 (gU_V mw406 mw407 mw408 mw19 mw409) rfl rfl rfl (by decide +kernel) ⟨Nat.le_of_ble_eq_true rfl, Nat.le_of_ble_eq_true rfl⟩) (k_preV hK hW (shC_lt (rfl : shC 2 = 5) (by decide)) (ceC_5 (rfl : shC 2 = 5)) (q := (RX5, TX5, 7)) rfl) rfl rfl hl.1 rfl (lv_room (Nat.le_of_ble_eq_true rfl)) dX5_readLaw_85 ⟨Nat.le_refl 0, Nat.le_refl 0⟩) (fun r26 h25 H locs hq hW => ?_)
    exact k_zret rfl hq.1.1 C hW dX5_readLaw_88 hq.2
theorem k_X5_readLaw_b20 {Q : Int32 → hp → Prop} {X20 : Int32 × hp → Prop} (C : kC p s m args meth c cX5_readLaw 3 (some .boolean) RX5 wUX5_readLaw) (hK : kK G s) (hX20 : ∀ (x1 : Int32) (h : hp) (H : Heap) (locs : List Loc) (ls : Array Slot), kW SC G h (aS SC G) s H locs → lv_has ls 3 [(0, .ref (G.2.2 2)), (1, .int x1)] → X20 (x1, h) → W p l e rmX5_readLaw s m args below meth c H locs 0 0 (MQ below (va_Qi Q (kB SC G) (aS SC G)) args s 0 0 (aS SC G)) (F0 m 20 ls [])) {x1 : Int32} {h : hp} {H : Heap} {locs : List Loc} {ls : Array Slot} (hW : kW SC G h (aS SC G) s H locs) (hl : lv_has ls 3 [(0, .ref (G.2.2 2)), (1, .int x1)]) (hq : w_X5_readLaw_b20 Q X20 x1 h) : W p l e rmX5_readLaw s m args below meth c H locs 0 0 (MQ below (va_Qi Q (kB SC G) (aS SC G)) args s 0 0 (aS SC G)) (F0 m 20 ls []) := by
  have hx := C.1
  have hb := C.2.1
  unfold w_X5_readLaw_b20 at hq
  refine lv_iload_n hx hb dX5_readLaw_20 rfl (lv_at hl 1 rfl) ?_
  refine lv_sipush (v := 400) hx hb dX5_readLaw_21 (by decide) ?_
  refine lv_icmp_gt (tgt := 108) hx hb dX5_readLaw_24 (by decide) (fun c5 => ?_) (fun c5 => ?_)
  · have hq := hq.1 c5
    refine lv_iconst (v := 1) hx hb dX5_readLaw_108 (by decide) ?_
    exact k_zret rfl isZ_1.1 C hW dX5_readLaw_109 hq
  · have hq := hq.2 c5
    refine lv_aload_n hx hb dX5_readLaw_27 rfl (lv_at hl 0 rfl) ?_
    refine gt5_6 C hK hW (rfl : shC 2 = 5) (List.mem_cons_of_mem _ mw56) (fun _ h9 => List.mem_cons_of_mem _ (inU_wsX50 _ h9)) dX5_readLaw_28 ?_
    refine gt3_1 C hK hW (rfl : shC 8 = 3) (List.mem_cons_of_mem _ mw452) (fun _ h9 => List.mem_cons_of_mem _ (inU_wsX30 _ h9)) dX5_readLaw_31 ?_
    refine lv_if_ne (tgt := 108) hx hb dX5_readLaw_34 (by decide) (fun c6 => ?_) (fun c6 => ?_)
    · have hq := hq.1 c6
      refine lv_iconst (v := 1) hx hb dX5_readLaw_108 (by decide) ?_
      exact k_zret rfl isZ_1.1 C hW dX5_readLaw_109 hq
    · have hq := hq.2 c6
      refine lv_aload_n hx hb dX5_readLaw_37 rfl (lv_at hl 0 rfl) ?_
      refine gt5_6 C hK hW (rfl : shC 2 = 5) (List.mem_cons_of_mem _ mw56) (fun _ h9 => List.mem_cons_of_mem _ (inU_wsX50 _ h9)) dX5_readLaw_38 ?_
      refine gt3_2 C hK hW (rfl : shC 8 = 3) (List.mem_cons_of_mem _ mw453) (fun _ h9 => List.mem_cons_of_mem _ (inU_wsX30 _ h9)) dX5_readLaw_41 ?_
      refine lv_if_eq (tgt := 67) hx hb dX5_readLaw_44 (by decide) (fun c7 => ?_) (fun c7 => ?_)
      · have hq := hq.1 c7
        refine lv_aload_n hx hb dX5_readLaw_67 rfl (lv_at hl 0 rfl) ?_
        refine gt5_6 C hK hW (rfl : shC 2 = 5) (List.mem_cons_of_mem _ mw56) (fun _ h9 => List.mem_cons_of_mem _ (inU_wsX50 _ h9)) dX5_readLaw_68 ?_
        refine lv_aload_n hx hb dX5_readLaw_71 rfl (lv_at hl 0 rfl) ?_
        refine k_ci hW (va_runV (As := []) (rest := [.ref (G.2.2 8)]) (k_fix C) (c_X5_kind l G h _ hq) (cwV 0 C.2.2.2.2.2.1 (gU_V mw397 mw398 mw399 mw19 mw400) rfl rfl rfl (by decide +kernel) ⟨Nat.le_of_ble_eq_true rfl, Nat.le_of_ble_eq_true rfl⟩) (k_preV hK hW (shC_lt (rfl : shC 2 = 5) (by decide)) (ceC_5 (rfl : shC 2 = 5)) (q := (RX5, TX5, 7)) rfl) rfl rfl hl.1 rfl (lv_room (Nat.le_of_ble_eq_true rfl)) dX5_readLaw_72 ⟨Nat.le_refl 0, Nat.le_refl 0⟩) (fun r8 h9 H locs hq hW => ?_)
        rw [hq.1] at hW
        have hq := hq.2
        refine k_ci hW (va_runV (As := [.int r8]) (rest := []) (k_fix C) (c_X3_behindUnit l G h r8 _ hq) (cwV 1 C.2.2.2.2.2.1 (gU_V mw476 mw477 mw478 mw55 mw479) rfl rfl rfl (by decide +kernel) ⟨Nat.le_of_ble_eq_true rfl, Nat.le_of_ble_eq_true rfl⟩) (k_preV hK hW (shC_lt (rfl : shC 8 = 3) (by decide)) (ceC_3 (rfl : shC 8 = 3)) (q := (RX3, TX3, 10)) rfl) rfl rfl hl.1 rfl (lv_room (Nat.le_of_ble_eq_true rfl)) dX5_readLaw_75 ⟨Nat.le_refl 0, Nat.le_refl 0⟩) (fun r11 h10 H locs hq hW => ?_)
        exact k_X5_readLaw_78 C hK hX20 hW (lv_sub hl [0, 1] rfl) hq
      · have hq := hq.2 c7
        refine lv_aload_n hx hb dX5_readLaw_47 rfl (lv_at hl 0 rfl) ?_
        refine gt5_6 C hK hW (rfl : shC 2 = 5) (List.mem_cons_of_mem _ mw56) (fun _ h9 => List.mem_cons_of_mem _ (inU_wsX50 _ h9)) dX5_readLaw_48 ?_
        refine lv_aload_n hx hb dX5_readLaw_51 rfl (lv_at hl 0 rfl) ?_
        refine k_ci hW (va_runV (As := []) (rest := [.ref (G.2.2 8)]) (k_fix C) (c_X5_kind l G h _ hq) (cwV 0 C.2.2.2.2.2.1 (gU_V mw397 mw398 mw399 mw19 mw400) rfl rfl rfl (by decide +kernel) ⟨Nat.le_of_ble_eq_true rfl, Nat.le_of_ble_eq_true rfl⟩) (k_preV hK hW (shC_lt (rfl : shC 2 = 5) (by decide)) (ceC_5 (rfl : shC 2 = 5)) (q := (RX5, TX5, 7)) rfl) rfl rfl hl.1 rfl (lv_room (Nat.le_of_ble_eq_true rfl)) dX5_readLaw_52 ⟨Nat.le_refl 0, Nat.le_refl 0⟩) (fun r12 h13 H locs hq hW => ?_)
        rw [hq.1] at hW
        have hq := hq.2
        refine lv_aload_n hx hb dX5_readLaw_55 rfl (lv_at hl 0 rfl) ?_
        refine lv_iconst (v := 0) hx hb dX5_readLaw_56 (by decide) ?_
        refine k_cl hW (va_runV (As := [.int 0]) (rest := [.int r12, .ref (G.2.2 8)]) (k_fix C) (c_X5_taken l G h 0 _ hq) (cwV 1 C.2.2.2.2.2.1 (gU_V mw425 mw426 mw427 mw19 mw428) rfl rfl rfl (by decide +kernel) ⟨Nat.le_of_ble_eq_true rfl, Nat.le_of_ble_eq_true rfl⟩) (k_preV hK hW (shC_lt (rfl : shC 2 = 5) (by decide)) (ceC_5 (rfl : shC 2 = 5)) (q := (RX5, TX5, 7)) rfl) rfl rfl hl.1 rfl (lv_room (Nat.le_of_ble_eq_true rfl)) dX5_readLaw_57 ⟨Nat.le_refl 0, Nat.le_refl 0⟩) (fun r14 h15 H locs hq hW => ?_)
        rw [hq.1] at hW
        have hq := hq.2
        refine lv_l2i (v := r14.toInt32) hx hb dX5_readLaw_60 rfl ?_
        refine k_ci hW (va_runV (As := [.int r12, .int (r14.toInt32)]) (rest := []) (k_fix C) (c_X3_unit l G h r12 (r14.toInt32) _ hq) (cwV 2 C.2.2.2.2.2.1 (gU_V mw459 mw460 mw461 mw55 mw462) rfl rfl rfl (by decide +kernel) ⟨Nat.le_of_ble_eq_true rfl, Nat.le_of_ble_eq_true rfl⟩) (k_preV hK hW (shC_lt (rfl : shC 8 = 3) (by decide)) (ceC_3 (rfl : shC 8 = 3)) (q := (RX3, TX3, 10)) rfl) rfl rfl hl.1 rfl (lv_room (Nat.le_of_ble_eq_true rfl)) dX5_readLaw_61 ⟨Nat.le_refl 0, Nat.le_refl 0⟩) (fun r17 h16 H locs hq hW => ?_)
        refine lv_goto (tgt := 78) hx hb dX5_readLaw_64 (by decide) ?_
        exact k_X5_readLaw_78 C hK hX20 hW (lv_sub hl [0, 1] rfl) hq
theorem k_X5_readLaw_20 {Q : Int32 → hp → Prop} (C : kC p s m args meth c cX5_readLaw 3 (some .boolean) RX5 wUX5_readLaw) (hK : kK G s) {x1 : Int32} {h : hp} {H : Heap} {locs : List Loc} {ls : Array Slot} (hW : kW SC G h (aS SC G) s H locs) (hl : lv_has ls 3 [(0, .ref (G.2.2 2)), (1, .int x1)]) (hq : w_X5_readLaw_20 Q x1 h) : W p l e rmX5_readLaw s m args below meth c H locs 0 0 (MQ below (va_Qi Q (kB SC G) (aS SC G)) args s 0 0 (aS SC G)) (F0 m 20 ls []) := by
  have key := hq (fun (q : Int32 × hp) => ∀ (H : Heap) (locs : List Loc) (ls : Array Slot), kW SC G q.2 (aS SC G) s H locs → lv_has ls 3 [(0, .ref (G.2.2 2)), (1, .int q.1)] → W p l e rmX5_readLaw s m args below meth c H locs 0 0 (MQ below (va_Qi Q (kB SC G) (aS SC G)) args s 0 0 (aS SC G)) (F0 m 20 ls []))
    (fun q hq H locs ls hW hl => k_X5_readLaw_b20 C hK (fun x1 h H locs ls hW hl hI => hI H locs ls hW hl) hW hl hq)
  exact key _ _ _ hW hl
theorem k_X5_readLaw_0 {Q : Int32 → hp → Prop} {h : hp} (C : kC p s m args meth c cX5_readLaw 3 (some .boolean) RX5 wUX5_readLaw) (hK : kK G s) {H : Heap} {locs : List Loc} {ls : Array Slot} (hW : kW SC G h (aS SC G) s H locs) (hl : lv_has ls 3 [(0, .ref (G.2.2 2))]) (hq : w_X5_readLaw_0 Q h) : W p l e rmX5_readLaw s m args below meth c H locs 0 0 (MQ below (va_Qi Q (kB SC G) (aS SC G)) args s 0 0 (aS SC G)) (F0 m 0 ls []) := by
  have hx := C.1
  have hb := C.2.1
  unfold w_X5_readLaw_0 at hq
  refine lv_aload_n hx hb dX5_readLaw_0 rfl (lv_at hl 0 rfl) ?_
  refine lv_bipush (v := 61) hx hb dX5_readLaw_1 (by decide) ?_
  refine k_ci hW (va_runV (As := [.int 61]) (rest := []) (k_fix C) (c_X5_take l G h 61 _ hq) (cwV 1 C.2.2.2.2.2.1 (gU_V mw417 mw418 mw419 mw19 mw420) rfl rfl rfl (by decide +kernel) ⟨Nat.le_of_ble_eq_true rfl, Nat.le_of_ble_eq_true rfl⟩) (k_preV hK hW (shC_lt (rfl : shC 2 = 5) (by decide)) (ceC_5 (rfl : shC 2 = 5)) (q := (RX5, TX5, 7)) rfl) rfl rfl hl.1 rfl (lv_room (Nat.le_of_ble_eq_true rfl)) dX5_readLaw_3 ⟨Nat.le_refl 0, Nat.le_refl 0⟩) (fun r2 h1 H locs hq hW => ?_)
  refine lv_if_ne (tgt := 11) hx hb dX5_readLaw_6 (by decide) (fun c3 => ?_) (fun c3 => ?_)
  · have hq := hq.1 c3
    refine lv_aload_n hx hb dX5_readLaw_11 rfl (lv_at hl 0 rfl) ?_
    refine gt5_6 C hK hW (rfl : shC 2 = 5) (List.mem_cons_of_mem _ mw56) (fun _ h9 => List.mem_cons_of_mem _ (inU_wsX50 _ h9)) dX5_readLaw_12 ?_
    refine k_cv hW (va_runV (As := []) (rest := []) (k_fix C) (c_X3_begin l G h1 _ hq) (cwV 0 C.2.2.2.2.2.1 (gU_V mw454 mw455 mw456 mw55 mw457) rfl rfl rfl (by decide +kernel) ⟨Nat.le_of_ble_eq_true rfl, Nat.le_of_ble_eq_true rfl⟩) (k_preV hK hW (shC_lt (rfl : shC 8 = 3) (by decide)) (ceC_3 (rfl : shC 8 = 3)) (q := (RX3, TX3, 10)) rfl) rfl rfl hl.1 rfl (lv_room (Nat.le_of_ble_eq_true rfl)) dX5_readLaw_15 ⟨Nat.le_refl 0, Nat.le_refl 0⟩) (fun h4 H locs hq hW => ?_)
    refine lv_iconst (v := 0) hx hb dX5_readLaw_18 (by decide) ?_
    refine lv_istore_n (lv' := [(1, .int 0), (0, .ref (G.2.2 2))]) hx hb dX5_readLaw_19 rfl hl (by decide) rfl (fun ls hl => ?_)
    exact k_X5_readLaw_20 C hK hW (lv_sub hl [1, 0] rfl) hq
  · have hq := hq.2 c3
    refine lv_iconst (v := 0) hx hb dX5_readLaw_9 (by decide) ?_
    exact k_zret rfl isZ_0.1 C hW dX5_readLaw_10 hq
theorem c_X5_readLaw (l : Launch) (G : wG) (h : hp) (Q : Int32 → hp → Prop) (hq : w_X5_readLaw h Q) : ctI l SC G yX5_readLaw wUX5_readLaw rmX5_readLaw h [.ref (G.2.2 2)] Q := by
  refine k_start (cc := cX5_readLaw) (maxL := 3) (rt := (some .boolean)) (own := RX5) (by decide +kernel) rfl rfl (Nat.le_of_ble_eq_true rfl) ?_
  intro p e s m below meth c ls C hK hW hl
  exact k_X5_readLaw_0 C hK hW hl hq
theorem k_X7_tellNumber_0 {o : Nat} (ho : shC o = 7) {Q : hp → Prop} {x1 : Int32} {x2 : Int32} {h : hp} (C : kC p s m args meth c cX7_tellNumber 3 none RX7 wUX7_tellNumber) (hK : kK G s) {H : Heap} {locs : List Loc} {ls : Array Slot} (hW : kW SC G h (aS SC G) s H locs) (hl : lv_has ls 3 [(0, .ref (G.2.2 o)), (1, .int x1), (2, .int x2)]) (hq : w_X7_tellNumber_0 o Q x1 x2 h) : W p l e rmX7_tellNumber s m args below meth c H locs 0 0 (MQ below (va_Qv Q (kB SC G) (aS SC G)) args s 0 0 (aS SC G)) (F0 m 0 ls []) := by
  have hx := C.1
  have hb := C.2.1
  unfold w_X7_tellNumber_0 at hq
  refine lv_aload_n hx hb dX7_tellNumber_0 rfl (lv_at hl 0 rfl) ?_
  refine gt7_0 C hK hW ho (List.mem_cons_of_mem _ mw61) (fun _ h9 => List.mem_cons_of_mem _ (inU_wsX70 _ h9)) dX7_tellNumber_1 ?_
  refine lv_bipush (v := 6) hx hb dX7_tellNumber_4 (by decide) ?_
  refine lv_icmp_ge (tgt := 30) hx hb dX7_tellNumber_6 (by decide) (fun c1 => ?_) (fun c1 => ?_)
  · have hq := hq.1 c1
    exact k_vret rfl C hW dX7_tellNumber_30 hq
  · have hq := hq.2 c1
    refine lv_iload_n hx hb dX7_tellNumber_9 rfl (lv_at hl 1 rfl) ?_
    refine lv_bipush (v := 6) hx hb dX7_tellNumber_10 (by decide) ?_
    refine lv_icmp_ge (tgt := 30) hx hb dX7_tellNumber_12 (by decide) (fun c2 => ?_) (fun c2 => ?_)
    · have hq := hq.1 c2
      exact k_vret rfl C hW dX7_tellNumber_30 hq
    · have hq := hq.2 c2
      refine lv_aload_n hx hb dX7_tellNumber_15 rfl (lv_at hl 0 rfl) ?_
      refine gt7_3 C hK hW ho (List.mem_cons_of_mem _ mw66) (fun _ h9 => List.mem_cons_of_mem _ (inU_wsX70 _ h9)) dX7_tellNumber_16 ?_
      refine lv_aload_n hx hb dX7_tellNumber_19 rfl (lv_at hl 0 rfl) ?_
      refine gt7_0 C hK hW ho (List.mem_cons_of_mem _ mw61) (fun _ h9 => List.mem_cons_of_mem _ (inU_wsX70 _ h9)) dX7_tellNumber_20 ?_
      refine lv_bipush (v := 6) hx hb dX7_tellNumber_23 (by decide) ?_
      refine lv_imul hx hb dX7_tellNumber_25 ?_
      refine lv_iload_n hx hb dX7_tellNumber_26 rfl (lv_at hl 1 rfl) ?_
      refine lv_iadd hx hb dX7_tellNumber_27 ?_
      refine lv_iload_n hx hb dX7_tellNumber_28 rfl (lv_at hl 2 rfl) ?_
      refine k_iast okC C hK hW (shC_lt (sl7_3 ho).1 (by decide)) (fun g9 => ceC_14 (sl7_3 ho).1 (sl7_3 ho).2) hq.1 dX7_tellNumber_29 (fun H locs hW => ?_)
      have hq := hq.2
      obtain ⟨h3, eh3⟩ : ∃ z : hp, z = sI h (o + 3) (ix (((gI h o 0) * 6) + x1)) x2 := ⟨_, rfl⟩
      rw [← eh3] at hW
      have hq := hq h3 eh3
      exact k_vret rfl C hW dX7_tellNumber_30 hq
theorem c_X7_tellNumber (l : Launch) (G : wG) {o : Nat} (ho : shC o = 7) (h : hp) (x1 : Int32) (x2 : Int32) (Q : hp → Prop) (hq : w_X7_tellNumber o h x1 x2 Q) : ctV l SC G yX7_tellNumber wUX7_tellNumber rmX7_tellNumber h [.ref (G.2.2 o), .int x1, .int x2] Q := by
  refine k_start (cc := cX7_tellNumber) (maxL := 3) (rt := none) (own := RX7) (by decide +kernel) rfl rfl (Nat.le_of_ble_eq_true rfl) ?_
  intro p e s m below meth c ls C hK hW hl
  exact k_X7_tellNumber_0 ho C hK hW hl hq
theorem k_X7_endRow_0 {o : Nat} (ho : shC o = 7) {Q : hp → Prop} {x1 : Int32} {h : hp} (C : kC p s m args meth c cX7_endRow 2 none RX7 wUX7_endRow) (hK : kK G s) {H : Heap} {locs : List Loc} {ls : Array Slot} (hW : kW SC G h (aS SC G) s H locs) (hl : lv_has ls 2 [(0, .ref (G.2.2 o)), (1, .int x1)]) (hq : w_X7_endRow_0 o Q x1 h) : W p l e rmX7_endRow s m args below meth c H locs 0 0 (MQ below (va_Qv Q (kB SC G) (aS SC G)) args s 0 0 (aS SC G)) (F0 m 0 ls []) := by
  have hx := C.1
  have hb := C.2.1
  unfold w_X7_endRow_0 at hq
  refine lv_aload_n hx hb dX7_endRow_0 rfl (lv_at hl 0 rfl) ?_
  refine gt7_0 C hK hW ho (List.mem_cons_of_mem _ mw61) (fun _ h9 => List.mem_cons_of_mem _ (inU_wsX70 _ h9)) dX7_endRow_1 ?_
  refine lv_bipush (v := 6) hx hb dX7_endRow_4 (by decide) ?_
  refine lv_icmp_ge (tgt := 29) hx hb dX7_endRow_6 (by decide) (fun c1 => ?_) (fun c1 => ?_)
  · have hq := hq.1 c1
    exact k_vret rfl C hW dX7_endRow_29 hq
  · have hq := hq.2 c1
    refine lv_aload_n hx hb dX7_endRow_9 rfl (lv_at hl 0 rfl) ?_
    refine gt7_1 C hK hW ho (List.mem_cons_of_mem _ mw63) (fun _ h9 => List.mem_cons_of_mem _ (inU_wsX70 _ h9)) dX7_endRow_10 ?_
    refine lv_aload_n hx hb dX7_endRow_13 rfl (lv_at hl 0 rfl) ?_
    refine gt7_0 C hK hW ho (List.mem_cons_of_mem _ mw61) (fun _ h9 => List.mem_cons_of_mem _ (inU_wsX70 _ h9)) dX7_endRow_14 ?_
    refine lv_iload_n hx hb dX7_endRow_17 rfl (lv_at hl 1 rfl) ?_
    refine k_iast okC C hK hW (shC_lt (sl7_1 ho).1 (by decide)) (fun g9 => ceC_14 (sl7_1 ho).1 (sl7_1 ho).2) hq.1 dX7_endRow_18 (fun H locs hW => ?_)
    have hq := hq.2
    obtain ⟨h2, eh2⟩ : ∃ z : hp, z = sI h (o + 1) (ix (gI h o 0)) x1 := ⟨_, rfl⟩
    rw [← eh2] at hW
    have hq := hq h2 eh2
    refine lv_aload_n hx hb dX7_endRow_19 rfl (lv_at hl 0 rfl) ?_
    refine lv_dup hx hb dX7_endRow_20 rfl ?_
    refine gt7_0 C hK hW ho (List.mem_cons_of_mem _ mw61) (fun _ h9 => List.mem_cons_of_mem _ (inU_wsX70 _ h9)) dX7_endRow_21 ?_
    refine lv_iconst (v := 1) hx hb dX7_endRow_24 (by decide) ?_
    refine lv_iadd hx hb dX7_endRow_25 ?_
    refine pt7_0 C hK hW ho (List.mem_cons_of_mem _ mw61) (fun _ h9 => List.mem_cons_of_mem _ (inU_wsX70 _ h9)) dX7_endRow_26 (fun h3 H locs eh3 hW => ?_)
    have hq := hq h3 eh3
    exact k_vret rfl C hW dX7_endRow_29 hq
theorem c_X7_endRow (l : Launch) (G : wG) {o : Nat} (ho : shC o = 7) (h : hp) (x1 : Int32) (Q : hp → Prop) (hq : w_X7_endRow o h x1 Q) : ctV l SC G yX7_endRow wUX7_endRow rmX7_endRow h [.ref (G.2.2 o), .int x1] Q := by
  refine k_start (cc := cX7_endRow) (maxL := 2) (rt := none) (own := RX7) (by decide +kernel) rfl rfl (Nat.le_of_ble_eq_true rfl) ?_
  intro p e s m below meth c ls C hK hW hl
  exact k_X7_endRow_0 ho C hK hW hl hq
theorem k_X5_tellRow_b4 {Q : Int32 → hp → Prop} {X4 : Int32 × Int32 × hp → Prop} (C : kC p s m args meth c cX5_tellRow 3 (some .boolean) RX5 wUX5_tellRow) (hK : kK G s) (hX4 : ∀ (x1 : Int32) (x2 : Int32) (h : hp) (H : Heap) (locs : List Loc) (ls : Array Slot), kW SC G h (aS SC G) s H locs → lv_has ls 3 [(0, .ref (G.2.2 2)), (1, .int x1), (2, .int x2)] → X4 (x1, x2, h) → W p l e rmX5_tellRow s m args below meth c H locs 0 0 (MQ below (va_Qi Q (kB SC G) (aS SC G)) args s 0 0 (aS SC G)) (F0 m 4 ls [])) {x1 : Int32} {x2 : Int32} {h : hp} {H : Heap} {locs : List Loc} {ls : Array Slot} (hW : kW SC G h (aS SC G) s H locs) (hl : lv_has ls 3 [(0, .ref (G.2.2 2)), (1, .int x1), (2, .int x2)]) (hq : w_X5_tellRow_b4 Q X4 x1 x2 h) : W p l e rmX5_tellRow s m args below meth c H locs 0 0 (MQ below (va_Qi Q (kB SC G) (aS SC G)) args s 0 0 (aS SC G)) (F0 m 4 ls []) := by
  have hx := C.1
  have hb := C.2.1
  unfold w_X5_tellRow_b4 at hq
  refine lv_iload_n hx hb dX5_tellRow_4 rfl (lv_at hl 2 rfl) ?_
  refine lv_aload_n hx hb dX5_tellRow_5 rfl (lv_at hl 0 rfl) ?_
  refine gt5_3 C hK hW (rfl : shC 2 = 5) (List.mem_cons_of_mem _ mw46) (fun _ h9 => List.mem_cons_of_mem _ (inU_wsX50 _ h9)) dX5_tellRow_6 ?_
  refine lv_icmp_ge (tgt := 44) hx hb dX5_tellRow_9 (by decide) (fun c1 => ?_) (fun c1 => ?_)
  · have hq := hq.1 c1
    refine lv_aload_n hx hb dX5_tellRow_44 rfl (lv_at hl 0 rfl) ?_
    refine gt5_4 C hK hW (rfl : shC 2 = 5) (List.mem_cons_of_mem _ mw48) (fun _ h9 => List.mem_cons_of_mem _ (inU_wsX50 _ h9)) dX5_tellRow_45 ?_
    have hr2 := hq.1
    have hq := hq.2
    refine lv_aload_n hx hb dX5_tellRow_48 rfl (lv_at hl 0 rfl) ?_
    refine gt5_3 C hK hW (rfl : shC 2 = 5) (List.mem_cons_of_mem _ mw46) (fun _ h9 => List.mem_cons_of_mem _ (inU_wsX50 _ h9)) dX5_tellRow_49 ?_
    refine k_cv hW (va_runV (As := [.int (gI h 2 3)]) (rest := []) (k_fix C) (c_X7_endRow l G hr2 h (gI h 2 3) _ hq) (cwV 1 C.2.2.2.2.2.1 (gU_V mw530 mw531 mw532 mw23 mw533) rfl rfl rfl (by decide +kernel) ⟨Nat.le_of_ble_eq_true rfl, Nat.le_of_ble_eq_true rfl⟩) (k_preV hK hW (shC_lt hr2 (by decide)) (ceC_7 hr2) (q := (RX7, TX7, 10)) rfl) rfl rfl hl.1 rfl (lv_room (Nat.le_of_ble_eq_true rfl)) dX5_tellRow_52 ⟨Nat.le_refl 0, Nat.le_refl 0⟩) (fun h3 H locs hq hW => ?_)
    refine lv_iconst (v := 1) hx hb dX5_tellRow_55 (by decide) ?_
    exact k_zret rfl isZ_1.1 C hW dX5_tellRow_56 hq
  · have hq := hq.2 c1
    refine lv_aload_n hx hb dX5_tellRow_12 rfl (lv_at hl 0 rfl) ?_
    refine gt5_6 C hK hW (rfl : shC 2 = 5) (List.mem_cons_of_mem _ mw56) (fun _ h9 => List.mem_cons_of_mem _ (inU_wsX50 _ h9)) dX5_tellRow_13 ?_
    refine gt3_0 C hK hW (rfl : shC 8 = 3) (List.mem_cons_of_mem _ mw503) (fun _ h9 => List.mem_cons_of_mem _ (inU_wsX30 _ h9)) dX5_tellRow_16 ?_
    refine lv_iload_n hx hb dX5_tellRow_19 rfl (lv_at hl 2 rfl) ?_
    refine lv_iload_n hx hb dX5_tellRow_20 rfl (lv_at hl 1 rfl) ?_
    refine lv_aload_n hx hb dX5_tellRow_21 rfl (lv_at hl 0 rfl) ?_
    refine gt5_3 C hK hW (rfl : shC 2 = 5) (List.mem_cons_of_mem _ mw46) (fun _ h9 => List.mem_cons_of_mem _ (inU_wsX50 _ h9)) dX5_tellRow_22 ?_
    refine k_ci hW (va_runV (As := [.int x2, .int x1, .int (gI h 2 3)]) (rest := []) (k_fix C) (c_X2_numberAt l G (rfl : shC 9 = 2) h x2 x1 (gI h 2 3) _ hq) (cwV 3 C.2.2.2.2.2.1 (gU_V mw504 mw505 mw506 mw69 mw507) rfl rfl rfl (by decide +kernel) ⟨Nat.le_of_ble_eq_true rfl, Nat.le_of_ble_eq_true rfl⟩) (k_preV hK hW (shC_lt (rfl : shC 9 = 2) (by decide)) (ceC_2 (rfl : shC 9 = 2)) (q := (RX2, TX2, 5)) rfl) rfl rfl hl.1 rfl (lv_room (Nat.le_of_ble_eq_true rfl)) dX5_tellRow_25 ⟨Nat.le_refl 0, Nat.le_refl 0⟩) (fun r5 h4 H locs hq hW => ?_)
    refine lv_istore_n (lv' := [(1, .int r5), (0, .ref (G.2.2 2)), (2, .int x2)]) hx hb dX5_tellRow_28 rfl hl (by decide) rfl (fun ls hl => ?_)
    refine lv_aload_n hx hb dX5_tellRow_29 rfl (lv_at hl 1 rfl) ?_
    refine gt5_4 C hK hW (rfl : shC 2 = 5) (List.mem_cons_of_mem _ mw48) (fun _ h9 => List.mem_cons_of_mem _ (inU_wsX50 _ h9)) dX5_tellRow_30 ?_
    have hr6 := hq.1
    have hq := hq.2
    refine lv_iload_n hx hb dX5_tellRow_33 rfl (lv_at hl 2 rfl) ?_
    refine lv_iload_n hx hb dX5_tellRow_34 rfl (lv_at hl 0 rfl) ?_
    refine k_cv hW (va_runV (As := [.int x2, .int r5]) (rest := []) (k_fix C) (c_X7_tellNumber l G hr6 h4 x2 r5 _ hq) (cwV 2 C.2.2.2.2.2.1 (gU_V mw526 mw527 mw528 mw23 mw529) rfl rfl rfl (by decide +kernel) ⟨Nat.le_of_ble_eq_true rfl, Nat.le_of_ble_eq_true rfl⟩) (k_preV hK hW (shC_lt hr6 (by decide)) (ceC_7 hr6) (q := (RX7, TX7, 10)) rfl) rfl rfl hl.1 rfl (lv_room (Nat.le_of_ble_eq_true rfl)) dX5_tellRow_35 ⟨Nat.le_refl 0, Nat.le_refl 0⟩) (fun h7 H locs hq hW => ?_)
    obtain ⟨x2_8, ex2_8⟩ : ∃ y : Int32, y = x2 + 1 := ⟨_, rfl⟩
    have hq := hq x2_8 ex2_8
    refine lv_iinc (v := x2_8) (lv' := [(2, .int x2_8), (1, .int r5), (0, .ref (G.2.2 2))]) hx hb dX5_tellRow_38 hl (k := 2) rfl (by rw [ex2_8]; rfl) (by decide) rfl (fun ls hl => ?_)
    refine lv_goto (tgt := 4) hx hb dX5_tellRow_41 (by decide) ?_
    exact hX4 _ _ _ _ _ _ hW (lv_sub hl [2, 1, 0] rfl) hq
theorem k_X5_tellRow_4 {Q : Int32 → hp → Prop} (C : kC p s m args meth c cX5_tellRow 3 (some .boolean) RX5 wUX5_tellRow) (hK : kK G s) {x1 : Int32} {x2 : Int32} {h : hp} {H : Heap} {locs : List Loc} {ls : Array Slot} (hW : kW SC G h (aS SC G) s H locs) (hl : lv_has ls 3 [(0, .ref (G.2.2 2)), (1, .int x1), (2, .int x2)]) (hq : w_X5_tellRow_4 Q x1 x2 h) : W p l e rmX5_tellRow s m args below meth c H locs 0 0 (MQ below (va_Qi Q (kB SC G) (aS SC G)) args s 0 0 (aS SC G)) (F0 m 4 ls []) := by
  have key := hq (fun (q : Int32 × Int32 × hp) => ∀ (H : Heap) (locs : List Loc) (ls : Array Slot), kW SC G q.2.2 (aS SC G) s H locs → lv_has ls 3 [(0, .ref (G.2.2 2)), (1, .int q.1), (2, .int q.2.1)] → W p l e rmX5_tellRow s m args below meth c H locs 0 0 (MQ below (va_Qi Q (kB SC G) (aS SC G)) args s 0 0 (aS SC G)) (F0 m 4 ls []))
    (fun q hq H locs ls hW hl => k_X5_tellRow_b4 C hK (fun x1 x2 h H locs ls hW hl hI => hI H locs ls hW hl) hW hl hq)
  exact key _ _ _ hW hl
theorem k_X5_tellRow_0 {Q : Int32 → hp → Prop} {h : hp} (C : kC p s m args meth c cX5_tellRow 3 (some .boolean) RX5 wUX5_tellRow) (hK : kK G s) {H : Heap} {locs : List Loc} {ls : Array Slot} (hW : kW SC G h (aS SC G) s H locs) (hl : lv_has ls 3 [(0, .ref (G.2.2 2))]) (hq : w_X5_tellRow_0 Q h) : W p l e rmX5_tellRow s m args below meth c H locs 0 0 (MQ below (va_Qi Q (kB SC G) (aS SC G)) args s 0 0 (aS SC G)) (F0 m 0 ls []) := by
  have hx := C.1
  have hb := C.2.1
  unfold w_X5_tellRow_0 at hq
  refine lv_iconst (v := 0) hx hb dX5_tellRow_0 (by decide) ?_
  refine lv_istore_n (lv' := [(1, .int 0), (0, .ref (G.2.2 2))]) hx hb dX5_tellRow_1 rfl hl (by decide) rfl (fun ls hl => ?_)
  refine lv_iconst (v := 0) hx hb dX5_tellRow_2 (by decide) ?_
  refine lv_istore_n (lv' := [(2, .int 0), (1, .int 0), (0, .ref (G.2.2 2))]) hx hb dX5_tellRow_3 rfl hl (by decide) rfl (fun ls hl => ?_)
  exact k_X5_tellRow_4 C hK hW (lv_sub hl [2, 1, 0] rfl) hq
theorem c_X5_tellRow (l : Launch) (G : wG) (h : hp) (Q : Int32 → hp → Prop) (hq : w_X5_tellRow h Q) : ctI l SC G yX5_tellRow wUX5_tellRow rmX5_tellRow h [.ref (G.2.2 2)] Q := by
  refine k_start (cc := cX5_tellRow) (maxL := 3) (rt := (some .boolean)) (own := RX5) (by decide +kernel) rfl rfl (Nat.le_of_ble_eq_true rfl) ?_
  intro p e s m below meth c ls C hK hW hl
  exact k_X5_tellRow_0 C hK hW hl hq
theorem k_X5_readList_113 {Q : Int32 → hp → Prop} {X4 : Int32 × Int32 × hp → Prop} {x1 : Int32} {x2 : Int32} {h : hp} {s0 : Int32} {s1 : Int32} (C : kC p s m args meth c cX5_readList 5 (some .boolean) RX5 wUX5_readList) (hK : kK G s) (hX4 : ∀ (x1 : Int32) (x2 : Int32) (h : hp) (H : Heap) (locs : List Loc) (ls : Array Slot), kW SC G h (aS SC G) s H locs → lv_has ls 5 [(0, .ref (G.2.2 2)), (1, .int x1), (2, .int x2)] → X4 (x1, x2, h) → W p l e rmX5_readList s m args below meth c H locs 0 0 (MQ below (va_Qi Q (kB SC G) (aS SC G)) args s 0 0 (aS SC G)) (F0 m 4 ls [])) {q2 : Nat} (hq2 : shC q2 = 7) {H : Heap} {locs : List Loc} {ls : Array Slot} (hW : kW SC G h (aS SC G) s H locs) (hl : lv_has ls 5 [(0, .ref (G.2.2 2)), (1, .int x1), (2, .int x2)]) (hq : w_X5_readList_113 Q X4 x1 x2 h s0 s1 q2) : W p l e rmX5_readList s m args below meth c H locs 0 0 (MQ below (va_Qi Q (kB SC G) (aS SC G)) args s 0 0 (aS SC G)) (F0 m 113 ls [.int s0, .int s1, .ref (G.2.2 q2)]) := by
  have hx := C.1
  have hb := C.2.1
  unfold w_X5_readList_113 at hq
  refine k_cv hW (va_runV (As := [.int s1, .int s0]) (rest := []) (k_fix C) (c_X7_tellNumber l G hq2 h s1 s0 _ hq) (cwV 2 C.2.2.2.2.2.1 (gU_V mw526 mw527 mw528 mw23 mw529) rfl rfl rfl (by decide +kernel) ⟨Nat.le_of_ble_eq_true rfl, Nat.le_of_ble_eq_true rfl⟩) (k_preV hK hW (shC_lt hq2 (by decide)) (ceC_7 hq2) (q := (RX7, TX7, 10)) rfl) rfl rfl hl.1 rfl (lv_room (Nat.le_of_ble_eq_true rfl)) dX5_readList_113 ⟨Nat.le_refl 0, Nat.le_refl 0⟩) (fun h28 H locs hq hW => ?_)
  obtain ⟨x1_29, ex1_29⟩ : ∃ y : Int32, y = x1 + 1 := ⟨_, rfl⟩
  have hq := hq x1_29 ex1_29
  refine lv_iinc (v := x1_29) (lv' := [(1, .int x1_29), (0, .ref (G.2.2 2)), (2, .int x2)]) hx hb dX5_readList_116 hl (k := 1) rfl (by rw [ex1_29]; rfl) (by decide) rfl (fun ls hl => ?_)
  obtain ⟨x2_30, ex2_30⟩ : ∃ y : Int32, y = x2 + 1 := ⟨_, rfl⟩
  have hq := hq x2_30 ex2_30
  refine lv_iinc (v := x2_30) (lv' := [(2, .int x2_30), (1, .int x1_29), (0, .ref (G.2.2 2))]) hx hb dX5_readList_119 hl (k := 2) rfl (by rw [ex2_30]; rfl) (by decide) rfl (fun ls hl => ?_)
  refine lv_goto (tgt := 4) hx hb dX5_readList_122 (by decide) ?_
  exact hX4 _ _ _ _ _ _ hW (lv_sub hl [2, 1, 0] rfl) hq
theorem k_X5_readList_69 {Q : Int32 → hp → Prop} {X4 : Int32 × Int32 × hp → Prop} {x1 : Int32} {x2 : Int32} {x3 : Int32} {h : hp} (C : kC p s m args meth c cX5_readList 5 (some .boolean) RX5 wUX5_readList) (hK : kK G s) (hX4 : ∀ (x1 : Int32) (x2 : Int32) (h : hp) (H : Heap) (locs : List Loc) (ls : Array Slot), kW SC G h (aS SC G) s H locs → lv_has ls 5 [(0, .ref (G.2.2 2)), (1, .int x1), (2, .int x2)] → X4 (x1, x2, h) → W p l e rmX5_readList s m args below meth c H locs 0 0 (MQ below (va_Qi Q (kB SC G) (aS SC G)) args s 0 0 (aS SC G)) (F0 m 4 ls [])) {H : Heap} {locs : List Loc} {ls : Array Slot} (hW : kW SC G h (aS SC G) s H locs) (hl : lv_has ls 5 [(0, .ref (G.2.2 2)), (1, .int x1), (2, .int x2), (3, .int x3)]) (hq : w_X5_readList_69 Q X4 x1 x2 x3 h) : W p l e rmX5_readList s m args below meth c H locs 0 0 (MQ below (va_Qi Q (kB SC G) (aS SC G)) args s 0 0 (aS SC G)) (F0 m 69 ls []) := by
  have hx := C.1
  have hb := C.2.1
  unfold w_X5_readList_69 at hq
  refine lv_aload_n hx hb dX5_readList_69 rfl (lv_at hl 0 rfl) ?_
  refine lv_iconst (v := 3) hx hb dX5_readList_70 (by decide) ?_
  refine k_ci hW (va_runV (As := [.int 3]) (rest := []) (k_fix C) (c_X5_take l G h 3 _ hq) (cwV 1 C.2.2.2.2.2.1 (gU_V mw417 mw418 mw419 mw19 mw420) rfl rfl rfl (by decide +kernel) ⟨Nat.le_of_ble_eq_true rfl, Nat.le_of_ble_eq_true rfl⟩) (k_preV hK hW (shC_lt (rfl : shC 2 = 5) (by decide)) (ceC_5 (rfl : shC 2 = 5)) (q := (RX5, TX5, 7)) rfl) rfl rfl hl.1 rfl (lv_room (Nat.le_of_ble_eq_true rfl)) dX5_readList_71 ⟨Nat.le_refl 0, Nat.le_refl 0⟩) (fun r19 h18 H locs hq hW => ?_)
  refine lv_if_ne (tgt := 79) hx hb dX5_readList_74 (by decide) (fun c20 => ?_) (fun c20 => ?_)
  · have hq := hq.1 c20
    refine lv_aload_n hx hb dX5_readList_79 rfl (lv_at hl 0 rfl) ?_
    refine lv_iconst (v := 1) hx hb dX5_readList_80 (by decide) ?_
    refine lv_iconst (v := 0) hx hb dX5_readList_81 (by decide) ?_
    refine lv_bipush (v := 99) hx hb dX5_readList_82 (by decide) ?_
    refine k_ci hW (va_runV (As := [.int 1, .int 0, .int 99]) (rest := []) (k_fix C) (c_X5_takenWithin l G h18 1 0 99 _ hq) (cwV 3 C.2.2.2.2.2.1 (gU_V mw442 mw443 mw444 mw19 mw445) rfl rfl rfl (by decide +kernel) ⟨Nat.le_of_ble_eq_true rfl, Nat.le_of_ble_eq_true rfl⟩) (k_preV hK hW (shC_lt (rfl : shC 2 = 5) (by decide)) (ceC_5 (rfl : shC 2 = 5)) (q := (RX5, TX5, 7)) rfl) rfl rfl hl.1 rfl (lv_room (Nat.le_of_ble_eq_true rfl)) dX5_readList_84 ⟨Nat.le_refl 0, Nat.le_refl 0⟩) (fun r22 h21 H locs hq hW => ?_)
    refine lv_pop hx hb dX5_readList_87 rfl ?_
    refine lv_aload_n hx hb dX5_readList_88 rfl (lv_at hl 0 rfl) ?_
    refine lv_iconst (v := 1) hx hb dX5_readList_89 (by decide) ?_
    refine k_cl hW (va_runV (As := [.int 1]) (rest := []) (k_fix C) (c_X5_taken l G h21 1 _ hq) (cwV 1 C.2.2.2.2.2.1 (gU_V mw425 mw426 mw427 mw19 mw428) rfl rfl rfl (by decide +kernel) ⟨Nat.le_of_ble_eq_true rfl, Nat.le_of_ble_eq_true rfl⟩) (k_preV hK hW (shC_lt (rfl : shC 2 = 5) (by decide)) (ceC_5 (rfl : shC 2 = 5)) (q := (RX5, TX5, 7)) rfl) rfl rfl hl.1 rfl (lv_room (Nat.le_of_ble_eq_true rfl)) dX5_readList_90 ⟨Nat.le_refl 0, Nat.le_refl 0⟩) (fun r23 h24 H locs hq hW => ?_)
    rw [hq.1] at hW
    have hq := hq.2
    refine lv_l2i (v := r23.toInt32) hx hb dX5_readList_93 rfl ?_
    refine lv_topi (fun x4_25 ex4_25 => ?_)
    have hq := hq x4_25 ex4_25
    refine lv_istore (lv' := [(4, .int x4_25), (0, .ref (G.2.2 2)), (1, .int x1), (2, .int x2), (3, .int x3)]) hx hb dX5_readList_94 hl (by decide) rfl (fun ls hl => ?_)
    refine lv_aload_n hx hb dX5_readList_96 rfl (lv_at hl 1 rfl) ?_
    refine gt5_4 C hK hW (rfl : shC 2 = 5) (List.mem_cons_of_mem _ mw48) (fun _ h9 => List.mem_cons_of_mem _ (inU_wsX50 _ h9)) dX5_readList_97 ?_
    have hr26 := hq.1
    have hq := hq.2
    refine lv_iload_n hx hb dX5_readList_100 rfl (lv_at hl 2 rfl) ?_
    refine lv_iload_n hx hb dX5_readList_101 rfl (lv_at hl 4 rfl) ?_
    refine lv_if_eq (tgt := 111) hx hb dX5_readList_102 (by decide) (fun c27 => ?_) (fun c27 => ?_)
    · have hq := hq.1 c27
      refine lv_iload hx hb dX5_readList_111 (lv_at hl 0 rfl) ?_
      exact k_X5_readList_113 C hK hX4 hr26 hW (lv_sub hl [1, 2, 3] rfl) hq
    · have hq := hq.2 c27
      refine lv_iload hx hb dX5_readList_105 (lv_at hl 0 rfl) ?_
      refine lv_ineg hx hb dX5_readList_107 ?_
      refine lv_goto (tgt := 113) hx hb dX5_readList_108 (by decide) ?_
      exact k_X5_readList_113 C hK hX4 hr26 hW (lv_sub hl [1, 2, 3] rfl) hq
  · have hq := hq.2 c20
    refine lv_iconst (v := 0) hx hb dX5_readList_77 (by decide) ?_
    exact k_zret rfl isZ_0.1 C hW dX5_readList_78 hq
theorem k_X5_readList_49 {Q : Int32 → hp → Prop} {X4 : Int32 × Int32 × hp → Prop} {x1 : Int32} {x2 : Int32} {x3 : Int32} {h : hp} (C : kC p s m args meth c cX5_readList 5 (some .boolean) RX5 wUX5_readList) (hK : kK G s) (hX4 : ∀ (x1 : Int32) (x2 : Int32) (h : hp) (H : Heap) (locs : List Loc) (ls : Array Slot), kW SC G h (aS SC G) s H locs → lv_has ls 5 [(0, .ref (G.2.2 2)), (1, .int x1), (2, .int x2)] → X4 (x1, x2, h) → W p l e rmX5_readList s m args below meth c H locs 0 0 (MQ below (va_Qi Q (kB SC G) (aS SC G)) args s 0 0 (aS SC G)) (F0 m 4 ls [])) {H : Heap} {locs : List Loc} {ls : Array Slot} (hW : kW SC G h (aS SC G) s H locs) (hl : lv_has ls 5 [(0, .ref (G.2.2 2)), (1, .int x1), (2, .int x2), (3, .int x3)]) (hq : w_X5_readList_49 Q X4 x1 x2 x3 h) : W p l e rmX5_readList s m args below meth c H locs 0 0 (MQ below (va_Qi Q (kB SC G) (aS SC G)) args s 0 0 (aS SC G)) (F0 m 49 ls []) := by
  have hx := C.1
  have hb := C.2.1
  unfold w_X5_readList_49 at hq
  refine lv_iload_n hx hb dX5_readList_49 rfl (lv_at hl 1 rfl) ?_
  refine lv_bipush (v := 6) hx hb dX5_readList_50 (by decide) ?_
  refine lv_icmp_ne (tgt := 69) hx hb dX5_readList_52 (by decide) (fun c12 => ?_) (fun c12 => ?_)
  · have hq := hq.1 c12
    exact k_X5_readList_69 C hK hX4 hW (lv_sub hl [0, 1, 2, 3] rfl) hq
  · have hq := hq.2 c12
    refine lv_aload_n hx hb dX5_readList_55 rfl (lv_at hl 0 rfl) ?_
    refine k_ci hW (va_runV (As := []) (rest := []) (k_fix C) (c_X5_kind l G h _ hq) (cwV 0 C.2.2.2.2.2.1 (gU_V mw397 mw398 mw399 mw19 mw400) rfl rfl rfl (by decide +kernel) ⟨Nat.le_of_ble_eq_true rfl, Nat.le_of_ble_eq_true rfl⟩) (k_preV hK hW (shC_lt (rfl : shC 2 = 5) (by decide)) (ceC_5 (rfl : shC 2 = 5)) (q := (RX5, TX5, 7)) rfl) rfl rfl hl.1 rfl (lv_room (Nat.le_of_ble_eq_true rfl)) dX5_readList_56 ⟨Nat.le_refl 0, Nat.le_refl 0⟩) (fun r13 h14 H locs hq hW => ?_)
    rw [hq.1] at hW
    have hq := hq.2
    refine lv_iconst (v := 3) hx hb dX5_readList_59 (by decide) ?_
    refine lv_icmp_ne (tgt := 69) hx hb dX5_readList_60 (by decide) (fun c15 => ?_) (fun c15 => ?_)
    · have hq := hq.1 c15
      exact k_X5_readList_69 C hK hX4 hW (lv_sub hl [0, 1, 2, 3] rfl) hq
    · have hq := hq.2 c15
      refine lv_aload_n hx hb dX5_readList_63 rfl (lv_at hl 0 rfl) ?_
      refine lv_iconst (v := 2) hx hb dX5_readList_64 (by decide) ?_
      refine k_ci hW (va_runV (As := [.int 2]) (rest := []) (k_fix C) (c_X5_stop l G h 2 _ hq) (cwV 1 C.2.2.2.2.2.1 (gU_V mw406 mw407 mw408 mw19 mw409) rfl rfl rfl (by decide +kernel) ⟨Nat.le_of_ble_eq_true rfl, Nat.le_of_ble_eq_true rfl⟩) (k_preV hK hW (shC_lt (rfl : shC 2 = 5) (by decide)) (ceC_5 (rfl : shC 2 = 5)) (q := (RX5, TX5, 7)) rfl) rfl rfl hl.1 rfl (lv_room (Nat.le_of_ble_eq_true rfl)) dX5_readList_65 ⟨Nat.le_refl 0, Nat.le_refl 0⟩) (fun r17 h16 H locs hq hW => ?_)
      exact k_zret rfl hq.1.1 C hW dX5_readList_68 hq.2
theorem k_X5_readList_33 {Q : Int32 → hp → Prop} {X4 : Int32 × Int32 × hp → Prop} {x1 : Int32} {x2 : Int32} {h : hp} {s0 : Int32} (C : kC p s m args meth c cX5_readList 5 (some .boolean) RX5 wUX5_readList) (hK : kK G s) (hX4 : ∀ (x1 : Int32) (x2 : Int32) (h : hp) (H : Heap) (locs : List Loc) (ls : Array Slot), kW SC G h (aS SC G) s H locs → lv_has ls 5 [(0, .ref (G.2.2 2)), (1, .int x1), (2, .int x2)] → X4 (x1, x2, h) → W p l e rmX5_readList s m args below meth c H locs 0 0 (MQ below (va_Qi Q (kB SC G) (aS SC G)) args s 0 0 (aS SC G)) (F0 m 4 ls [])) {H : Heap} {locs : List Loc} {ls : Array Slot} (hW : kW SC G h (aS SC G) s H locs) (hl : lv_has ls 5 [(0, .ref (G.2.2 2)), (1, .int x1), (2, .int x2)]) (hq : w_X5_readList_33 Q X4 x1 x2 h s0) : W p l e rmX5_readList s m args below meth c H locs 0 0 (MQ below (va_Qi Q (kB SC G) (aS SC G)) args s 0 0 (aS SC G)) (F0 m 33 ls [.int s0]) := by
  have hx := C.1
  have hb := C.2.1
  unfold w_X5_readList_33 at hq
  refine lv_istore_n (lv' := [(3, .int s0), (0, .ref (G.2.2 2)), (1, .int x1), (2, .int x2)]) hx hb dX5_readList_33 rfl hl (by decide) rfl (fun ls hl => ?_)
  refine lv_iload_n hx hb dX5_readList_34 rfl (lv_at hl 0 rfl) ?_
  refine lv_if_eq (tgt := 49) hx hb dX5_readList_35 (by decide) (fun c8 => ?_) (fun c8 => ?_)
  · have hq := hq.1 c8
    exact k_X5_readList_49 C hK hX4 hW (lv_sub hl [1, 2, 3, 0] rfl) hq
  · have hq := hq.2 c8
    refine lv_aload_n hx hb dX5_readList_38 rfl (lv_at hl 1 rfl) ?_
    refine lv_bipush (v := 45) hx hb dX5_readList_39 (by decide) ?_
    refine k_ci hW (va_runV (As := [.int 45]) (rest := []) (k_fix C) (c_X5_take l G h 45 _ hq) (cwV 1 C.2.2.2.2.2.1 (gU_V mw417 mw418 mw419 mw19 mw420) rfl rfl rfl (by decide +kernel) ⟨Nat.le_of_ble_eq_true rfl, Nat.le_of_ble_eq_true rfl⟩) (k_preV hK hW (shC_lt (rfl : shC 2 = 5) (by decide)) (ceC_5 (rfl : shC 2 = 5)) (q := (RX5, TX5, 7)) rfl) rfl rfl hl.1 rfl (lv_room (Nat.le_of_ble_eq_true rfl)) dX5_readList_41 ⟨Nat.le_refl 0, Nat.le_refl 0⟩) (fun r10 h9 H locs hq hW => ?_)
    refine lv_if_ne (tgt := 49) hx hb dX5_readList_44 (by decide) (fun c11 => ?_) (fun c11 => ?_)
    · have hq := hq.1 c11
      exact k_X5_readList_49 C hK hX4 hW (lv_sub hl [1, 2, 3, 0] rfl) hq
    · have hq := hq.2 c11
      refine lv_iconst (v := 0) hx hb dX5_readList_47 (by decide) ?_
      exact k_zret rfl isZ_0.1 C hW dX5_readList_48 hq
theorem k_X5_readList_125 {Q : Int32 → hp → Prop} {x1 : Int32} {h : hp} (C : kC p s m args meth c cX5_readList 5 (some .boolean) RX5 wUX5_readList) (hK : kK G s) {H : Heap} {locs : List Loc} {ls : Array Slot} (hW : kW SC G h (aS SC G) s H locs) (hl : lv_has ls 5 [(0, .ref (G.2.2 2)), (1, .int x1)]) (hq : w_X5_readList_125 Q x1 h) : W p l e rmX5_readList s m args below meth c H locs 0 0 (MQ below (va_Qi Q (kB SC G) (aS SC G)) args s 0 0 (aS SC G)) (F0 m 125 ls []) := by
  have hx := C.1
  have hb := C.2.1
  unfold w_X5_readList_125 at hq
  refine lv_aload_n hx hb dX5_readList_125 rfl (lv_at hl 0 rfl) ?_
  refine gt5_4 C hK hW (rfl : shC 2 = 5) (List.mem_cons_of_mem _ mw48) (fun _ h9 => List.mem_cons_of_mem _ (inU_wsX50 _ h9)) dX5_readList_126 ?_
  have hr31 := hq.1
  have hq := hq.2
  refine lv_iload_n hx hb dX5_readList_129 rfl (lv_at hl 1 rfl) ?_
  refine k_cv hW (va_runV (As := [.int x1]) (rest := []) (k_fix C) (c_X7_endRow l G hr31 h x1 _ hq) (cwV 1 C.2.2.2.2.2.1 (gU_V mw530 mw531 mw532 mw23 mw533) rfl rfl rfl (by decide +kernel) ⟨Nat.le_of_ble_eq_true rfl, Nat.le_of_ble_eq_true rfl⟩) (k_preV hK hW (shC_lt hr31 (by decide)) (ceC_7 hr31) (q := (RX7, TX7, 10)) rfl) rfl rfl hl.1 rfl (lv_room (Nat.le_of_ble_eq_true rfl)) dX5_readList_130 ⟨Nat.le_refl 0, Nat.le_refl 0⟩) (fun h32 H locs hq hW => ?_)
  refine lv_iconst (v := 1) hx hb dX5_readList_133 (by decide) ?_
  exact k_zret rfl isZ_1.1 C hW dX5_readList_134 hq
theorem k_X5_readList_b4 {Q : Int32 → hp → Prop} {X4 : Int32 × Int32 × hp → Prop} (C : kC p s m args meth c cX5_readList 5 (some .boolean) RX5 wUX5_readList) (hK : kK G s) (hX4 : ∀ (x1 : Int32) (x2 : Int32) (h : hp) (H : Heap) (locs : List Loc) (ls : Array Slot), kW SC G h (aS SC G) s H locs → lv_has ls 5 [(0, .ref (G.2.2 2)), (1, .int x1), (2, .int x2)] → X4 (x1, x2, h) → W p l e rmX5_readList s m args below meth c H locs 0 0 (MQ below (va_Qi Q (kB SC G) (aS SC G)) args s 0 0 (aS SC G)) (F0 m 4 ls [])) {x1 : Int32} {x2 : Int32} {h : hp} {H : Heap} {locs : List Loc} {ls : Array Slot} (hW : kW SC G h (aS SC G) s H locs) (hl : lv_has ls 5 [(0, .ref (G.2.2 2)), (1, .int x1), (2, .int x2)]) (hq : w_X5_readList_b4 Q X4 x1 x2 h) : W p l e rmX5_readList s m args below meth c H locs 0 0 (MQ below (va_Qi Q (kB SC G) (aS SC G)) args s 0 0 (aS SC G)) (F0 m 4 ls []) := by
  have hx := C.1
  have hb := C.2.1
  unfold w_X5_readList_b4 at hq
  refine lv_iload_n hx hb dX5_readList_4 rfl (lv_at hl 2 rfl) ?_
  refine lv_bipush (v := 6) hx hb dX5_readList_5 (by decide) ?_
  refine lv_icmp_gt (tgt := 125) hx hb dX5_readList_7 (by decide) (fun c1 => ?_) (fun c1 => ?_)
  · have hq := hq.1 c1
    exact k_X5_readList_125 C hK hW (lv_sub hl [0, 1] rfl) hq
  · have hq := hq.2 c1
    refine lv_aload_n hx hb dX5_readList_10 rfl (lv_at hl 0 rfl) ?_
    refine k_ci hW (va_runV (As := []) (rest := []) (k_fix C) (c_X5_kind l G h _ hq) (cwV 0 C.2.2.2.2.2.1 (gU_V mw397 mw398 mw399 mw19 mw400) rfl rfl rfl (by decide +kernel) ⟨Nat.le_of_ble_eq_true rfl, Nat.le_of_ble_eq_true rfl⟩) (k_preV hK hW (shC_lt (rfl : shC 2 = 5) (by decide)) (ceC_5 (rfl : shC 2 = 5)) (q := (RX5, TX5, 7)) rfl) rfl rfl hl.1 rfl (lv_room (Nat.le_of_ble_eq_true rfl)) dX5_readList_11 ⟨Nat.le_refl 0, Nat.le_refl 0⟩) (fun r2 h3 H locs hq hW => ?_)
    rw [hq.1] at hW
    have hq := hq.2
    refine lv_bipush (v := 59) hx hb dX5_readList_14 (by decide) ?_
    refine lv_icmp_eq (tgt := 125) hx hb dX5_readList_16 (by decide) (fun c4 => ?_) (fun c4 => ?_)
    · have hq := hq.1 c4
      exact k_X5_readList_125 C hK hW (lv_sub hl [0, 1] rfl) hq
    · have hq := hq.2 c4
      refine lv_aload_n hx hb dX5_readList_19 rfl (lv_at hl 0 rfl) ?_
      refine k_ci hW (va_runV (As := []) (rest := []) (k_fix C) (c_X5_kind l G h _ hq) (cwV 0 C.2.2.2.2.2.1 (gU_V mw397 mw398 mw399 mw19 mw400) rfl rfl rfl (by decide +kernel) ⟨Nat.le_of_ble_eq_true rfl, Nat.le_of_ble_eq_true rfl⟩) (k_preV hK hW (shC_lt (rfl : shC 2 = 5) (by decide)) (ceC_5 (rfl : shC 2 = 5)) (q := (RX5, TX5, 7)) rfl) rfl rfl hl.1 rfl (lv_room (Nat.le_of_ble_eq_true rfl)) dX5_readList_20 ⟨Nat.le_refl 0, Nat.le_refl 0⟩) (fun r5 h6 H locs hq hW => ?_)
      rw [hq.1] at hW
      have hq := hq.2
      refine lv_bipush (v := 45) hx hb dX5_readList_23 (by decide) ?_
      refine lv_icmp_ne (tgt := 32) hx hb dX5_readList_25 (by decide) (fun c7 => ?_) (fun c7 => ?_)
      · have hq := hq.1 c7
        refine lv_iconst (v := 0) hx hb dX5_readList_32 (by decide) ?_
        exact k_X5_readList_33 C hK hX4 hW (lv_sub hl [0, 1, 2] rfl) hq
      · have hq := hq.2 c7
        refine lv_iconst (v := 1) hx hb dX5_readList_28 (by decide) ?_
        refine lv_goto (tgt := 33) hx hb dX5_readList_29 (by decide) ?_
        exact k_X5_readList_33 C hK hX4 hW (lv_sub hl [0, 1, 2] rfl) hq
theorem k_X5_readList_4 {Q : Int32 → hp → Prop} (C : kC p s m args meth c cX5_readList 5 (some .boolean) RX5 wUX5_readList) (hK : kK G s) {x1 : Int32} {x2 : Int32} {h : hp} {H : Heap} {locs : List Loc} {ls : Array Slot} (hW : kW SC G h (aS SC G) s H locs) (hl : lv_has ls 5 [(0, .ref (G.2.2 2)), (1, .int x1), (2, .int x2)]) (hq : w_X5_readList_4 Q x1 x2 h) : W p l e rmX5_readList s m args below meth c H locs 0 0 (MQ below (va_Qi Q (kB SC G) (aS SC G)) args s 0 0 (aS SC G)) (F0 m 4 ls []) := by
  have key := hq (fun (q : Int32 × Int32 × hp) => ∀ (H : Heap) (locs : List Loc) (ls : Array Slot), kW SC G q.2.2 (aS SC G) s H locs → lv_has ls 5 [(0, .ref (G.2.2 2)), (1, .int q.1), (2, .int q.2.1)] → W p l e rmX5_readList s m args below meth c H locs 0 0 (MQ below (va_Qi Q (kB SC G) (aS SC G)) args s 0 0 (aS SC G)) (F0 m 4 ls []))
    (fun q hq H locs ls hW hl => k_X5_readList_b4 C hK (fun x1 x2 h H locs ls hW hl hI => hI H locs ls hW hl) hW hl hq)
  exact key _ _ _ hW hl
theorem k_X5_readList_0 {Q : Int32 → hp → Prop} {h : hp} (C : kC p s m args meth c cX5_readList 5 (some .boolean) RX5 wUX5_readList) (hK : kK G s) {H : Heap} {locs : List Loc} {ls : Array Slot} (hW : kW SC G h (aS SC G) s H locs) (hl : lv_has ls 5 [(0, .ref (G.2.2 2))]) (hq : w_X5_readList_0 Q h) : W p l e rmX5_readList s m args below meth c H locs 0 0 (MQ below (va_Qi Q (kB SC G) (aS SC G)) args s 0 0 (aS SC G)) (F0 m 0 ls []) := by
  have hx := C.1
  have hb := C.2.1
  unfold w_X5_readList_0 at hq
  refine lv_iconst (v := 0) hx hb dX5_readList_0 (by decide) ?_
  refine lv_istore_n (lv' := [(1, .int 0), (0, .ref (G.2.2 2))]) hx hb dX5_readList_1 rfl hl (by decide) rfl (fun ls hl => ?_)
  refine lv_iconst (v := 0) hx hb dX5_readList_2 (by decide) ?_
  refine lv_istore_n (lv' := [(2, .int 0), (1, .int 0), (0, .ref (G.2.2 2))]) hx hb dX5_readList_3 rfl hl (by decide) rfl (fun ls hl => ?_)
  exact k_X5_readList_4 C hK hW (lv_sub hl [2, 1, 0] rfl) hq
theorem c_X5_readList (l : Launch) (G : wG) (h : hp) (Q : Int32 → hp → Prop) (hq : w_X5_readList h Q) : ctI l SC G yX5_readList wUX5_readList rmX5_readList h [.ref (G.2.2 2)] Q := by
  refine k_start (cc := cX5_readList) (maxL := 5) (rt := (some .boolean)) (own := RX5) (by decide +kernel) rfl rfl (Nat.le_of_ble_eq_true rfl) ?_
  intro p e s m below meth c ls C hK hW hl
  exact k_X5_readList_0 C hK hW hl hq
theorem k_X5_tellAsk_0 {Q : Int32 → hp → Prop} {h : hp} (C : kC p s m args meth c cX5_tellAsk 1 (some .boolean) RX5 wUX5_tellAsk) (hK : kK G s) {H : Heap} {locs : List Loc} {ls : Array Slot} (hW : kW SC G h (aS SC G) s H locs) (hl : lv_has ls 1 [(0, .ref (G.2.2 2))]) (hq : w_X5_tellAsk_0 Q h) : W p l e rmX5_tellAsk s m args below meth c H locs 0 0 (MQ below (va_Qi Q (kB SC G) (aS SC G)) args s 0 0 (aS SC G)) (F0 m 0 ls []) := by
  have hx := C.1
  have hb := C.2.1
  unfold w_X5_tellAsk_0 at hq
  refine lv_aload_n hx hb dX5_tellAsk_0 rfl (lv_at hl 0 rfl) ?_
  refine gt5_4 C hK hW (rfl : shC 2 = 5) (List.mem_cons_of_mem _ mw48) (fun _ h9 => List.mem_cons_of_mem _ (inU_wsX50 _ h9)) dX5_tellAsk_1 ?_
  have hr1 := hq.1
  have hq := hq.2
  refine gt7_4 C hK hW hr1 (List.mem_cons_of_mem _ mw542) (fun _ h9 => List.mem_cons_of_mem _ (inU_wsX70 _ h9)) dX5_tellAsk_4 ?_
  refine lv_aload_n hx hb dX5_tellAsk_7 rfl (lv_at hl 0 rfl) ?_
  refine gt5_6 C hK hW (rfl : shC 2 = 5) (List.mem_cons_of_mem _ mw56) (fun _ h9 => List.mem_cons_of_mem _ (inU_wsX50 _ h9)) dX5_tellAsk_8 ?_
  refine gt3_0 C hK hW (rfl : shC 8 = 3) (List.mem_cons_of_mem _ mw503) (fun _ h9 => List.mem_cons_of_mem _ (inU_wsX30 _ h9)) dX5_tellAsk_11 ?_
  refine k_cv hW (va_runV (As := [.ref (G.2.2 9)]) (rest := []) (k_fix C) (c_X2_copy l G (sl7_4 hr1) (rfl : shC 9 = 2) h _ hq) (cwV 1 C.2.2.2.2.2.1 (gU_V mw543 mw544 mw545 mw69 mw546) rfl rfl rfl (by decide +kernel) ⟨Nat.le_of_ble_eq_true rfl, Nat.le_of_ble_eq_true rfl⟩) (k_preV hK hW (shC_lt (sl7_4 hr1) (by decide)) (ceC_2 (sl7_4 hr1)) (q := (RX2, TX2, 5)) rfl) rfl rfl hl.1 rfl (lv_room (Nat.le_of_ble_eq_true rfl)) dX5_tellAsk_14 ⟨Nat.le_refl 0, Nat.le_refl 0⟩) (fun h2 H locs hq hW => ?_)
  refine lv_iconst (v := 1) hx hb dX5_tellAsk_17 (by decide) ?_
  exact k_zret rfl isZ_1.1 C hW dX5_tellAsk_18 hq
theorem c_X5_tellAsk (l : Launch) (G : wG) (h : hp) (Q : Int32 → hp → Prop) (hq : w_X5_tellAsk h Q) : ctI l SC G yX5_tellAsk wUX5_tellAsk rmX5_tellAsk h [.ref (G.2.2 2)] Q := by
  refine k_start (cc := cX5_tellAsk) (maxL := 1) (rt := (some .boolean)) (own := RX5) (by decide +kernel) rfl rfl (Nat.le_of_ble_eq_true rfl) ?_
  intro p e s m below meth c ls C hK hW hl
  exact k_X5_tellAsk_0 C hK hW hl hq
end LINKS
