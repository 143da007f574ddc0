section LINKS
variable {p : Program} {l : Launch} {e : Env} {s : State} {m : MethodId} {args : Array Value} {below : List Frame} {meth : Method} {c : Code} {G : wG}
theorem k_X2_branchHere_0 {o : Nat} (ho : shC o = 2) {Q : hp → Prop} {x1 : Int32} {h : hp} (C : kC p s m args meth c cX2_branchHere 2 none RX2 wUX2_branchHere) (hK : kK G s) {H : Heap} {locs : List Loc} {ls : Array Slot} (hW : kW SC G h (aS SC G) s H locs) (hl : lv_has ls 2 [(0, .ref (G.2.2 o)), (1, .int x1)]) (hq : w_X2_branchHere_0 o Q x1 h) : W p l e rmX2_branchHere s m args below meth c H locs 0 0 (MQ below (va_Qv Q (kB SC G) (aS SC G)) args s 0 0 (aS SC G)) (F0 m 0 ls []) := by
  have hx := C.1
  have hb := C.2.1
  unfold w_X2_branchHere_0 at hq
  refine lv_iload_n hx hb dX2_branchHere_0 rfl (lv_at hl 1 rfl) ?_
  refine lv_if_lt (tgt := 21) hx hb dX2_branchHere_1 (by decide) (fun c1 => ?_) (fun c1 => ?_)
  · have hq := hq.1 c1
    exact k_vret rfl C hW dX2_branchHere_21 hq
  · have hq := hq.2 c1
    refine lv_iload_n hx hb dX2_branchHere_4 rfl (lv_at hl 1 rfl) ?_
    refine lv_sipush (v := 402) hx hb dX2_branchHere_5 (by decide) ?_
    refine lv_icmp_ge (tgt := 21) hx hb dX2_branchHere_8 (by decide) (fun c2 => ?_) (fun c2 => ?_)
    · have hq := hq.1 c2
      exact k_vret rfl C hW dX2_branchHere_21 hq
    · have hq := hq.2 c2
      refine lv_aload_n hx hb dX2_branchHere_11 rfl (lv_at hl 0 rfl) ?_
      refine gt2_1 C hK hW ho (List.mem_cons_of_mem _ mw86) (fun _ h9 => List.mem_cons_of_mem _ (inU_wsX20 _ h9)) dX2_branchHere_12 ?_
      refine lv_iload_n hx hb dX2_branchHere_15 rfl (lv_at hl 1 rfl) ?_
      refine lv_aload_n hx hb dX2_branchHere_16 rfl (lv_at hl 0 rfl) ?_
      refine gt2_2 C hK hW ho (List.mem_cons_of_mem _ mw87) (fun _ h9 => List.mem_cons_of_mem _ (inU_wsX20 _ h9)) dX2_branchHere_17 ?_
      refine k_iast okC C hK hW (shC_lt (sl2_1 ho).1 (by decide)) (fun g9 => ceC_14 (sl2_1 ho).1 (sl2_1 ho).2) hq.1 dX2_branchHere_20 (fun H locs hW => ?_)
      have hq := hq.2
      obtain ⟨h3, eh3⟩ : ∃ z : hp, z = sI h (o + 2) (ix x1) (gI h o 2) := ⟨_, rfl⟩
      rw [← eh3] at hW
      have hq := hq h3 eh3
      exact k_vret rfl C hW dX2_branchHere_21 hq
theorem c_X2_branchHere (l : Launch) (G : wG) {o : Nat} (ho : shC o = 2) (h : hp) (x1 : Int32) (Q : hp → Prop) (hq : w_X2_branchHere o h x1 Q) : ctV l SC G yX2_branchHere wUX2_branchHere rmX2_branchHere h [.ref (G.2.2 o), .int x1] Q := by
  refine k_start (cc := cX2_branchHere) (maxL := 2) (rt := none) (own := RX2) (by decide +kernel) rfl rfl (Nat.le_of_ble_eq_true rfl) ?_
  intro p e s m below meth c ls C hK hW hl
  exact k_X2_branchHere_0 ho C hK hW hl hq
theorem k_X2_look_0 {o : Nat} (ho : shC o = 2) {Q : hp → Prop} {x1 : Int32} {x2 : Int32} {x3 : Int32} {x4 : Int32} {x5 : Int32} {x6 : Int32} {h : hp} (C : kC p s m args meth c cX2_look 7 none RX2 wUX2_look) (hK : kK G s) {H : Heap} {locs : List Loc} {ls : Array Slot} (hW : kW SC G h (aS SC G) s H locs) (hl : lv_has ls 7 [(0, .ref (G.2.2 o)), (1, .int x1), (2, .int x2), (3, .int x3), (4, .int x4), (5, .int x5), (6, .int x6)]) (hq : w_X2_look_0 o Q x1 x2 x3 x4 x5 x6 h) : W p l e rmX2_look s m args below meth c H locs 0 0 (MQ below (va_Qv Q (kB SC G) (aS SC G)) args s 0 0 (aS SC G)) (F0 m 0 ls []) := by
  have hx := C.1
  have hb := C.2.1
  unfold w_X2_look_0 at hq
  refine lv_aload_n hx hb dX2_look_0 rfl (lv_at hl 0 rfl) ?_
  refine gt2_3 C hK hW ho (List.mem_cons_of_mem _ mw88) (fun _ h9 => List.mem_cons_of_mem _ (inU_wsX20 _ h9)) dX2_look_1 ?_
  refine lv_iconst (v := 0) hx hb dX2_look_4 (by decide) ?_
  refine lv_iload_n hx hb dX2_look_5 rfl (lv_at hl 1 rfl) ?_
  refine k_iast okC C hK hW (shC_lt (sl2_3 ho).1 (by decide)) (fun g9 => ceC_14 (sl2_3 ho).1 (sl2_3 ho).2) hq.1 dX2_look_6 (fun H locs hW => ?_)
  have hq := hq.2
  obtain ⟨h1, eh1⟩ : ∃ z : hp, z = sI h (o + 3) (ix 0) x1 := ⟨_, rfl⟩
  rw [← eh1] at hW
  have hq := hq h1 eh1
  refine lv_aload_n hx hb dX2_look_7 rfl (lv_at hl 0 rfl) ?_
  refine gt2_3 C hK hW ho (List.mem_cons_of_mem _ mw88) (fun _ h9 => List.mem_cons_of_mem _ (inU_wsX20 _ h9)) dX2_look_8 ?_
  refine lv_iconst (v := 1) hx hb dX2_look_11 (by decide) ?_
  refine lv_iload_n hx hb dX2_look_12 rfl (lv_at hl 2 rfl) ?_
  refine k_iast okC C hK hW (shC_lt (sl2_3 ho).1 (by decide)) (fun g9 => ceC_14 (sl2_3 ho).1 (sl2_3 ho).2) hq.1 dX2_look_13 (fun H locs hW => ?_)
  have hq := hq.2
  obtain ⟨h2, eh2⟩ : ∃ z : hp, z = sI h1 (o + 3) (ix 1) x2 := ⟨_, rfl⟩
  rw [← eh2] at hW
  have hq := hq h2 eh2
  refine lv_aload_n hx hb dX2_look_14 rfl (lv_at hl 0 rfl) ?_
  refine gt2_3 C hK hW ho (List.mem_cons_of_mem _ mw88) (fun _ h9 => List.mem_cons_of_mem _ (inU_wsX20 _ h9)) dX2_look_15 ?_
  refine lv_iconst (v := 2) hx hb dX2_look_18 (by decide) ?_
  refine lv_iload_n hx hb dX2_look_19 rfl (lv_at hl 3 rfl) ?_
  refine k_iast okC C hK hW (shC_lt (sl2_3 ho).1 (by decide)) (fun g9 => ceC_14 (sl2_3 ho).1 (sl2_3 ho).2) hq.1 dX2_look_20 (fun H locs hW => ?_)
  have hq := hq.2
  obtain ⟨h3, eh3⟩ : ∃ z : hp, z = sI h2 (o + 3) (ix 2) x3 := ⟨_, rfl⟩
  rw [← eh3] at hW
  have hq := hq h3 eh3
  refine lv_aload_n hx hb dX2_look_21 rfl (lv_at hl 0 rfl) ?_
  refine gt2_3 C hK hW ho (List.mem_cons_of_mem _ mw88) (fun _ h9 => List.mem_cons_of_mem _ (inU_wsX20 _ h9)) dX2_look_22 ?_
  refine lv_iconst (v := 3) hx hb dX2_look_25 (by decide) ?_
  refine lv_iload hx hb dX2_look_26 (lv_at hl 4 rfl) ?_
  refine k_iast okC C hK hW (shC_lt (sl2_3 ho).1 (by decide)) (fun g9 => ceC_14 (sl2_3 ho).1 (sl2_3 ho).2) hq.1 dX2_look_28 (fun H locs hW => ?_)
  have hq := hq.2
  obtain ⟨h4, eh4⟩ : ∃ z : hp, z = sI h3 (o + 3) (ix 3) x4 := ⟨_, rfl⟩
  rw [← eh4] at hW
  have hq := hq h4 eh4
  refine lv_aload_n hx hb dX2_look_29 rfl (lv_at hl 0 rfl) ?_
  refine gt2_3 C hK hW ho (List.mem_cons_of_mem _ mw88) (fun _ h9 => List.mem_cons_of_mem _ (inU_wsX20 _ h9)) dX2_look_30 ?_
  refine lv_iconst (v := 4) hx hb dX2_look_33 (by decide) ?_
  refine lv_iload hx hb dX2_look_34 (lv_at hl 5 rfl) ?_
  refine k_iast okC C hK hW (shC_lt (sl2_3 ho).1 (by decide)) (fun g9 => ceC_14 (sl2_3 ho).1 (sl2_3 ho).2) hq.1 dX2_look_36 (fun H locs hW => ?_)
  have hq := hq.2
  obtain ⟨h5, eh5⟩ : ∃ z : hp, z = sI h4 (o + 3) (ix 4) x5 := ⟨_, rfl⟩
  rw [← eh5] at hW
  have hq := hq h5 eh5
  refine lv_aload_n hx hb dX2_look_37 rfl (lv_at hl 0 rfl) ?_
  refine gt2_3 C hK hW ho (List.mem_cons_of_mem _ mw88) (fun _ h9 => List.mem_cons_of_mem _ (inU_wsX20 _ h9)) dX2_look_38 ?_
  refine lv_iconst (v := 5) hx hb dX2_look_41 (by decide) ?_
  refine lv_iload hx hb dX2_look_42 (lv_at hl 6 rfl) ?_
  refine k_iast okC C hK hW (shC_lt (sl2_3 ho).1 (by decide)) (fun g9 => ceC_14 (sl2_3 ho).1 (sl2_3 ho).2) hq.1 dX2_look_44 (fun H locs hW => ?_)
  have hq := hq.2
  obtain ⟨h6, eh6⟩ : ∃ z : hp, z = sI h5 (o + 3) (ix 5) x6 := ⟨_, rfl⟩
  rw [← eh6] at hW
  have hq := hq h6 eh6
  exact k_vret rfl C hW dX2_look_45 hq
theorem c_X2_look (l : Launch) (G : wG) {o : Nat} (ho : shC o = 2) (h : hp) (x1 : Int32) (x2 : Int32) (x3 : Int32) (x4 : Int32) (x5 : Int32) (x6 : Int32) (Q : hp → Prop) (hq : w_X2_look o h x1 x2 x3 x4 x5 x6 Q) : ctV l SC G yX2_look wUX2_look rmX2_look h [.ref (G.2.2 o), .int x1, .int x2, .int x3, .int x4, .int x5, .int x6] Q := by
  refine k_start (cc := cX2_look) (maxL := 7) (rt := none) (own := RX2) (by decide +kernel) rfl rfl (Nat.le_of_ble_eq_true rfl) ?_
  intro p e s m below meth c ls C hK hW hl
  exact k_X2_look_0 ho C hK hW hl hq
theorem k_X2_joined_0 {Q : Int32 → Prop} {x0 : Int32} {x1 : Int32} {x2 : Int32} {h : hp} (C : kC p s m args meth c cX2_joined 3 (some .int) RX2 wUX2_joined) (hK : kK G s) {H : Heap} {locs : List Loc} {ls : Array Slot} (hW : kW SC G h (aS SC G) s H locs) (hl : lv_has ls 3 [(0, .int x0), (1, .int x1), (2, .int x2)]) (hq : w_X2_joined_0 Q x0 x1 x2) : W p l e rmX2_joined s m args below meth c H locs 0 0 (MQ below (va_Qi (fun r9 h9 => h9 = h ∧ Q r9) (kB SC G) (aS SC G)) args s 0 0 (aS SC G)) (F0 m 0 ls []) := by
  have hx := C.1
  have hb := C.2.1
  unfold w_X2_joined_0 at hq
  refine lv_iload_n hx hb dX2_joined_0 rfl (lv_at hl 0 rfl) ?_
  refine lv_topi (fun sw1 esw1 => ?_)
  have hq := hq sw1 esw1
  by_cases c2 : sw1 = 42
  · have hq := hq.1 c2
    refine k_top c2 ?_
    refine lv_tableIn (tgt := 40) (off := 39) hx hb dX2_joined_1 (by decide) (by decide) (by decide) (by decide) ?_
    refine lv_iload_n hx hb dX2_joined_40 rfl (lv_at hl 1 rfl) ?_
    refine lv_iload_n hx hb dX2_joined_41 rfl (lv_at hl 2 rfl) ?_
    refine lv_imul hx hb dX2_joined_42 ?_
    exact k_iret rfl C hW dX2_joined_43 ⟨rfl, hq⟩
  have hq := hq.2
  by_cases c3 : sw1 = 43
  · have hq := hq.1 c3
    refine k_top c3 ?_
    refine lv_tableIn (tgt := 32) (off := 31) hx hb dX2_joined_1 (by decide) (by decide) (by decide) (by decide) ?_
    refine lv_iload_n hx hb dX2_joined_32 rfl (lv_at hl 1 rfl) ?_
    refine lv_iload_n hx hb dX2_joined_33 rfl (lv_at hl 2 rfl) ?_
    refine lv_iadd hx hb dX2_joined_34 ?_
    exact k_iret rfl C hW dX2_joined_35 ⟨rfl, hq⟩
  have hq := hq.2
  by_cases c4 : sw1 = 44
  · have hq := hq.1 c4
    refine k_top c4 ?_
    refine lv_tableIn (tgt := 44) (off := 43) hx hb dX2_joined_1 (by decide) (by decide) (by decide) (by decide) ?_
    refine lv_iload_n hx hb dX2_joined_44 rfl (lv_at hl 2 rfl) ?_
    refine lv_if_ne (tgt := 52) hx hb dX2_joined_45 (by decide) (fun c5 => ?_) (fun c5 => ?_)
    · have hq := hq.1 c5
      refine lv_iload_n hx hb dX2_joined_52 rfl (lv_at hl 1 rfl) ?_
      refine lv_iload_n hx hb dX2_joined_53 rfl (lv_at hl 2 rfl) ?_
      refine lv_idiv hx hb dX2_joined_54 hq.1 ?_
      have hq := hq.2
      exact k_iret rfl C hW dX2_joined_55 ⟨rfl, hq⟩
    · have hq := hq.2 c5
      refine lv_iconst (v := 0) hx hb dX2_joined_48 (by decide) ?_
      refine lv_goto (tgt := 55) hx hb dX2_joined_49 (by decide) ?_
      exact k_iret rfl C hW dX2_joined_55 ⟨rfl, hq⟩
  have hq := hq.2
  by_cases c6 : sw1 = 45
  · have hq := hq.1 c6
    refine k_top c6 ?_
    refine lv_tableIn (tgt := 36) (off := 35) hx hb dX2_joined_1 (by decide) (by decide) (by decide) (by decide) ?_
    refine lv_iload_n hx hb dX2_joined_36 rfl (lv_at hl 1 rfl) ?_
    refine lv_iload_n hx hb dX2_joined_37 rfl (lv_at hl 2 rfl) ?_
    refine lv_isub hx hb dX2_joined_38 ?_
    exact k_iret rfl C hW dX2_joined_39 ⟨rfl, hq⟩
  have hq := hq.2
  have c7 : sw1.toInt < 42 ∨ 45 < sw1.toInt := by
    rcases Int.lt_or_le sw1.toInt 42 with q | q
    · exact Or.inl q
    · refine Or.inr (Int.not_le.mp fun q2 => ?_)
      have q3 : sw1 = Int32.ofInt sw1.toInt := (Int32.ofInt_toInt sw1).symm
      have q4 : sw1.toInt = 42 ∨ sw1.toInt = 43 ∨ sw1.toInt = 44 ∨ sw1.toInt = 45 := by omega
      rcases q4 with q4 | q4 | q4 | q4 <;> rw [q4] at q3 <;> simp_all
  refine lv_tableOut (tgt := 44) hx hb dX2_joined_1 c7 (by decide) ?_
  have hq := hq c7
  refine lv_iload_n hx hb dX2_joined_44 rfl (lv_at hl 2 rfl) ?_
  refine lv_if_ne (tgt := 52) hx hb dX2_joined_45 (by decide) (fun c8 => ?_) (fun c8 => ?_)
  · have hq := hq.1 c8
    refine lv_iload_n hx hb dX2_joined_52 rfl (lv_at hl 1 rfl) ?_
    refine lv_iload_n hx hb dX2_joined_53 rfl (lv_at hl 2 rfl) ?_
    refine lv_idiv hx hb dX2_joined_54 hq.1 ?_
    have hq := hq.2
    exact k_iret rfl C hW dX2_joined_55 ⟨rfl, hq⟩
  · have hq := hq.2 c8
    refine lv_iconst (v := 0) hx hb dX2_joined_48 (by decide) ?_
    refine lv_goto (tgt := 55) hx hb dX2_joined_49 (by decide) ?_
    exact k_iret rfl C hW dX2_joined_55 ⟨rfl, hq⟩
theorem c_X2_joined (l : Launch) (G : wG) (h : hp) (x0 : Int32) (x1 : Int32) (x2 : Int32) (Q : Int32 → Prop) (hq : w_X2_joined x0 x1 x2 Q) : ctI l SC G yX2_joined wUX2_joined rmX2_joined h [.int x0, .int x1, .int x2] (fun r9 h9 => h9 = h ∧ Q r9) := by
  refine k_start (cc := cX2_joined) (maxL := 3) (rt := (some .int)) (own := RX2) (by decide +kernel) rfl rfl (Nat.le_of_ble_eq_true rfl) ?_
  intro p e s m below meth c ls C hK hW hl
  exact k_X2_joined_0 C hK hW hl hq
theorem k_X2_worth_100 {o : Nat} (ho : shC o = 2) {Q : Int32 → hp → Prop} {X6 : Int32 × Int32 × Int32 × hp → Prop} {x1 : Int32} {x2 : Int32} {x3 : Int32} {h : hp} {s0 : Int32} {s1 : Int32} (C : kC p s m args meth c cX2_worth 6 (some .int) RX2 wUX2_worth) (hK : kK G s) (hX6 : ∀ (x1 : Int32) (x2 : Int32) (x3 : Int32) (h : hp) (H : Heap) (locs : List Loc) (ls : Array Slot), kW SC G h (aS SC G) s H locs → lv_has ls 6 [(0, .ref (G.2.2 o)), (1, .int x1), (2, .int x2), (3, .int x3)] → X6 (x1, x2, x3, h) → W p l e rmX2_worth s m args below meth c H locs 0 0 (MQ below (va_Qi Q (kB SC G) (aS SC G)) args s 0 0 (aS SC G)) (F0 m 6 ls [])) {H : Heap} {locs : List Loc} {ls : Array Slot} (hW : kW SC G h (aS SC G) s H locs) (hl : lv_has ls 6 [(0, .ref (G.2.2 o)), (1, .int x1), (2, .int x2), (3, .int x3)]) (hq : w_X2_worth_100 o Q X6 x1 x2 x3 h s0 s1) : W p l e rmX2_worth s m args below meth c H locs 0 0 (MQ below (va_Qi Q (kB SC G) (aS SC G)) args s 0 0 (aS SC G)) (F0 m 100 ls [.int s0, .int s1, .ref (G.2.2 (o + 4))]) := by
  have hx := C.1
  have hb := C.2.1
  unfold w_X2_worth_100 at hq
  refine k_iast okC C hK hW (shC_lt (sl2_4 ho).1 (by decide)) (fun g9 => ceC_14 (sl2_4 ho).1 (sl2_4 ho).2) hq.1 dX2_worth_100 (fun H locs hW => ?_)
  have hq := hq.2
  obtain ⟨h26, eh26⟩ : ∃ z : hp, z = sI h (o + 4) (ix s1) s0 := ⟨_, rfl⟩
  rw [← eh26] at hW
  have hq := hq h26 eh26
  obtain ⟨x1_27, ex1_27⟩ : ∃ y : Int32, y = x1 + 1 := ⟨_, rfl⟩
  have hq := hq x1_27 ex1_27
  refine lv_iinc (v := x1_27) (lv' := [(1, .int x1_27), (0, .ref (G.2.2 o)), (2, .int x2), (3, .int x3)]) hx hb dX2_worth_101 hl (k := 1) rfl (by rw [ex1_27]; rfl) (by decide) rfl (fun ls hl => ?_)
  refine lv_goto (tgt := 225) hx hb dX2_worth_104 (by decide) ?_
  obtain ⟨x3_28, ex3_28⟩ : ∃ y : Int32, y = x3 + 1 := ⟨_, rfl⟩
  have hq := hq x3_28 ex3_28
  refine lv_iinc (v := x3_28) (lv' := [(3, .int x3_28), (1, .int x1_27), (0, .ref (G.2.2 o)), (2, .int x2)]) hx hb dX2_worth_225 hl (k := 3) rfl (by rw [ex3_28]; rfl) (by decide) rfl (fun ls hl => ?_)
  refine lv_goto (tgt := 6) hx hb dX2_worth_228 (by decide) ?_
  exact hX6 _ _ _ _ _ _ _ hW (lv_sub hl [2, 1, 3, 0] rfl) hq
theorem k_X2_worth_198 {o : Nat} (ho : shC o = 2) {Q : Int32 → hp → Prop} {X6 : Int32 × Int32 × Int32 × hp → Prop} {x1 : Int32} {x2 : Int32} {x3 : Int32} {x4 : Int32} {h : hp} (C : kC p s m args meth c cX2_worth 6 (some .int) RX2 wUX2_worth) (hK : kK G s) (hX6 : ∀ (x1 : Int32) (x2 : Int32) (x3 : Int32) (h : hp) (H : Heap) (locs : List Loc) (ls : Array Slot), kW SC G h (aS SC G) s H locs → lv_has ls 6 [(0, .ref (G.2.2 o)), (1, .int x1), (2, .int x2), (3, .int x3)] → X6 (x1, x2, x3, h) → W p l e rmX2_worth s m args below meth c H locs 0 0 (MQ below (va_Qi Q (kB SC G) (aS SC G)) args s 0 0 (aS SC G)) (F0 m 6 ls [])) {H : Heap} {locs : List Loc} {ls : Array Slot} (hW : kW SC G h (aS SC G) s H locs) (hl : lv_has ls 6 [(0, .ref (G.2.2 o)), (1, .int x1), (2, .int x2), (3, .int x3), (4, .int x4)]) (hq : w_X2_worth_198 o Q X6 x1 x2 x3 x4 h) : W p l e rmX2_worth s m args below meth c H locs 0 0 (MQ below (va_Qi Q (kB SC G) (aS SC G)) args s 0 0 (aS SC G)) (F0 m 198 ls []) := by
  have hx := C.1
  have hb := C.2.1
  unfold w_X2_worth_198 at hq
  refine lv_aload_n hx hb dX2_worth_198 rfl (lv_at hl 0 rfl) ?_
  refine gt2_4 C hK hW ho (List.mem_cons_of_mem _ mw89) (fun _ h9 => List.mem_cons_of_mem _ (inU_wsX20 _ h9)) dX2_worth_199 ?_
  refine lv_iload_n hx hb dX2_worth_202 rfl (lv_at hl 1 rfl) ?_
  refine lv_iconst (v := 1) hx hb dX2_worth_203 (by decide) ?_
  refine lv_isub hx hb dX2_worth_204 ?_
  refine lv_iload hx hb dX2_worth_205 (lv_at hl 4 rfl) ?_
  refine lv_aload_n hx hb dX2_worth_207 rfl (lv_at hl 0 rfl) ?_
  refine gt2_4 C hK hW ho (List.mem_cons_of_mem _ mw89) (fun _ h9 => List.mem_cons_of_mem _ (inU_wsX20 _ h9)) dX2_worth_208 ?_
  refine lv_iload_n hx hb dX2_worth_211 rfl (lv_at hl 1 rfl) ?_
  refine lv_iconst (v := 1) hx hb dX2_worth_212 (by decide) ?_
  refine lv_isub hx hb dX2_worth_213 ?_
  refine k_iald C hK hW (shC_lt (sl2_4 ho).1 (by decide)) (ceC_14 (sl2_4 ho).1 (sl2_4 ho).2) hq.1 dX2_worth_214 ?_
  have hq := hq.2
  refine lv_aload_n hx hb dX2_worth_215 rfl (lv_at hl 0 rfl) ?_
  refine gt2_4 C hK hW ho (List.mem_cons_of_mem _ mw89) (fun _ h9 => List.mem_cons_of_mem _ (inU_wsX20 _ h9)) dX2_worth_216 ?_
  refine lv_iload_n hx hb dX2_worth_219 rfl (lv_at hl 1 rfl) ?_
  refine k_iald C hK hW (shC_lt (sl2_4 ho).1 (by decide)) (ceC_14 (sl2_4 ho).1 (sl2_4 ho).2) hq.1 dX2_worth_220 ?_
  have hq := hq.2
  refine k_ci hW (va_runS (As := [.int x4, .int (gI h (o + 4) (ix (x1 - 1))), .int (gI h (o + 4) (ix x1))]) (rest := [.int (x1 - 1), .ref (G.2.2 (o + 4))]) (k_fix C) (c_X2_joined l G h x4 (gI h (o + 4) (ix (x1 - 1))) (gI h (o + 4) (ix x1)) _ hq) (va_cwS 3 C.2.2.2.2.2.1 (gU_S mw523 mw524 mw69 mw525) rfl rfl rfl (by decide +kernel) ⟨Nat.le_of_ble_eq_true rfl, Nat.le_of_ble_eq_true rfl⟩) (k_preS hK hW) rfl rfl hl.1 rfl (lv_room (Nat.le_of_ble_eq_true rfl)) dX2_worth_221 ⟨Nat.le_refl 0, Nat.le_refl 0⟩) (fun r29 h30 H locs hq hW => ?_)
  rw [hq.1] at hW
  have hq := hq.2
  refine k_iast okC C hK hW (shC_lt (sl2_4 ho).1 (by decide)) (fun g9 => ceC_14 (sl2_4 ho).1 (sl2_4 ho).2) hq.1 dX2_worth_224 (fun H locs hW => ?_)
  have hq := hq.2
  obtain ⟨h31, eh31⟩ : ∃ z : hp, z = sI h (o + 4) (ix (x1 - 1)) r29 := ⟨_, rfl⟩
  rw [← eh31] at hW
  have hq := hq h31 eh31
  obtain ⟨x3_32, ex3_32⟩ : ∃ y : Int32, y = x3 + 1 := ⟨_, rfl⟩
  have hq := hq x3_32 ex3_32
  refine lv_iinc (v := x3_32) (lv' := [(3, .int x3_32), (0, .ref (G.2.2 o)), (1, .int x1), (2, .int x2), (4, .int x4)]) hx hb dX2_worth_225 hl (k := 3) rfl (by rw [ex3_32]; rfl) (by decide) rfl (fun ls hl => ?_)
  refine lv_goto (tgt := 6) hx hb dX2_worth_228 (by decide) ?_
  exact hX6 _ _ _ _ _ _ _ hW (lv_sub hl [1, 2, 3, 0] rfl) hq
theorem k_X2_worth_b6 {o : Nat} (ho : shC o = 2) {Q : Int32 → hp → Prop} {X6 : Int32 × Int32 × Int32 × hp → Prop} (C : kC p s m args meth c cX2_worth 6 (some .int) RX2 wUX2_worth) (hK : kK G s) (hX6 : ∀ (x1 : Int32) (x2 : Int32) (x3 : Int32) (h : hp) (H : Heap) (locs : List Loc) (ls : Array Slot), kW SC G h (aS SC G) s H locs → lv_has ls 6 [(0, .ref (G.2.2 o)), (1, .int x1), (2, .int x2), (3, .int x3)] → X6 (x1, x2, x3, h) → W p l e rmX2_worth s m args below meth c H locs 0 0 (MQ below (va_Qi Q (kB SC G) (aS SC G)) args s 0 0 (aS SC G)) (F0 m 6 ls [])) {x1 : Int32} {x2 : Int32} {x3 : Int32} {h : hp} {H : Heap} {locs : List Loc} {ls : Array Slot} (hW : kW SC G h (aS SC G) s H locs) (hl : lv_has ls 6 [(0, .ref (G.2.2 o)), (1, .int x1), (2, .int x2), (3, .int x3)]) (hq : w_X2_worth_b6 o Q X6 x1 x2 x3 h) : W p l e rmX2_worth s m args below meth c H locs 0 0 (MQ below (va_Qi Q (kB SC G) (aS SC G)) args s 0 0 (aS SC G)) (F0 m 6 ls []) := by
  have hx := C.1
  have hb := C.2.1
  unfold w_X2_worth_b6 at hq
  refine lv_iload_n hx hb dX2_worth_6 rfl (lv_at hl 3 rfl) ?_
  refine lv_sipush (v := 402) hx hb dX2_worth_7 (by decide) ?_
  refine lv_icmp_ge (tgt := 231) hx hb dX2_worth_10 (by decide) (fun c1 => ?_) (fun c1 => ?_)
  · have hq := hq.1 c1
    refine lv_iconst (v := 0) hx hb dX2_worth_231 (by decide) ?_
    exact k_iret rfl C hW dX2_worth_232 hq
  · have hq := hq.2 c1
    refine lv_iload_n hx hb dX2_worth_13 rfl (lv_at hl 2 rfl) ?_
    refine lv_aload_n hx hb dX2_worth_14 rfl (lv_at hl 0 rfl) ?_
    refine gt2_2 C hK hW ho (List.mem_cons_of_mem _ mw87) (fun _ h9 => List.mem_cons_of_mem _ (inU_wsX20 _ h9)) dX2_worth_15 ?_
    refine lv_icmp_ge (tgt := 231) hx hb dX2_worth_18 (by decide) (fun c2 => ?_) (fun c2 => ?_)
    · have hq := hq.1 c2
      refine lv_iconst (v := 0) hx hb dX2_worth_231 (by decide) ?_
      exact k_iret rfl C hW dX2_worth_232 hq
    · have hq := hq.2 c2
      refine lv_iload_n hx hb dX2_worth_21 rfl (lv_at hl 1 rfl) ?_
      refine lv_bipush (v := 42) hx hb dX2_worth_22 (by decide) ?_
      refine lv_icmp_ge (tgt := 231) hx hb dX2_worth_24 (by decide) (fun c3 => ?_) (fun c3 => ?_)
      · have hq := hq.1 c3
        refine lv_iconst (v := 0) hx hb dX2_worth_231 (by decide) ?_
        exact k_iret rfl C hW dX2_worth_232 hq
      · have hq := hq.2 c3
        refine lv_aload_n hx hb dX2_worth_27 rfl (lv_at hl 0 rfl) ?_
        refine gt2_0 C hK hW ho (List.mem_cons_of_mem _ mw85) (fun _ h9 => List.mem_cons_of_mem _ (inU_wsX20 _ h9)) dX2_worth_28 ?_
        refine lv_iload_n hx hb dX2_worth_31 rfl (lv_at hl 2 rfl) ?_
        refine k_iald C hK hW (shC_lt (sl2_0 ho).1 (by decide)) (ceC_14 (sl2_0 ho).1 (sl2_0 ho).2) hq.1 dX2_worth_32 ?_
        have hq := hq.2
        refine lv_topi (fun x4_4 ex4_4 => ?_)
        have hq := hq x4_4 ex4_4
        refine lv_istore (lv' := [(4, .int x4_4), (0, .ref (G.2.2 o)), (1, .int x1), (2, .int x2), (3, .int x3)]) hx hb dX2_worth_33 hl (by decide) rfl (fun ls hl => ?_)
        refine lv_aload_n hx hb dX2_worth_35 rfl (lv_at hl 1 rfl) ?_
        refine gt2_1 C hK hW ho (List.mem_cons_of_mem _ mw86) (fun _ h9 => List.mem_cons_of_mem _ (inU_wsX20 _ h9)) dX2_worth_36 ?_
        refine lv_iload_n hx hb dX2_worth_39 rfl (lv_at hl 3 rfl) ?_
        refine k_iald C hK hW (shC_lt (sl2_1 ho).1 (by decide)) (ceC_14 (sl2_1 ho).1 (sl2_1 ho).2) hq.1 dX2_worth_40 ?_
        have hq := hq.2
        refine lv_topi (fun x5_5 ex5_5 => ?_)
        have hq := hq x5_5 ex5_5
        refine lv_istore (lv' := [(5, .int x5_5), (4, .int x4_4), (0, .ref (G.2.2 o)), (1, .int x1), (2, .int x2), (3, .int x3)]) hx hb dX2_worth_41 hl (by decide) rfl (fun ls hl => ?_)
        obtain ⟨x2_6, ex2_6⟩ : ∃ y : Int32, y = x2 + 1 := ⟨_, rfl⟩
        have hq := hq x2_6 ex2_6
        refine lv_iinc (v := x2_6) (lv' := [(2, .int x2_6), (5, .int x5_5), (4, .int x4_4), (0, .ref (G.2.2 o)), (1, .int x1), (3, .int x3)]) hx hb dX2_worth_43 hl (k := 4) rfl (by rw [ex2_6]; rfl) (by decide) rfl (fun ls hl => ?_)
        refine lv_iload hx hb dX2_worth_46 (lv_at hl 2 rfl) ?_
        refine lv_iconst (v := 1) hx hb dX2_worth_48 (by decide) ?_
        refine lv_icmp_ne (tgt := 66) hx hb dX2_worth_49 (by decide) (fun c7 => ?_) (fun c7 => ?_)
        · have hq := hq.1 c7
          refine lv_iload hx hb dX2_worth_66 (lv_at hl 2 rfl) ?_
          refine lv_iconst (v := 2) hx hb dX2_worth_68 (by decide) ?_
          refine lv_icmp_ne (tgt := 107) hx hb dX2_worth_69 (by decide) (fun c8 => ?_) (fun c8 => ?_)
          · have hq := hq.1 c8
            refine lv_iload hx hb dX2_worth_107 (lv_at hl 2 rfl) ?_
            refine lv_iconst (v := 4) hx hb dX2_worth_109 (by decide) ?_
            refine lv_icmp_ne (tgt := 130) hx hb dX2_worth_110 (by decide) (fun c9 => ?_) (fun c9 => ?_)
            · have hq := hq.1 c9
              refine lv_iload_n hx hb dX2_worth_130 rfl (lv_at hl 4 rfl) ?_
              refine lv_iconst (v := 2) hx hb dX2_worth_131 (by decide) ?_
              refine lv_icmp_ge (tgt := 137) hx hb dX2_worth_132 (by decide) (fun c10 => ?_) (fun c10 => ?_)
              · have hq := hq.1 c10
                refine lv_iload hx hb dX2_worth_137 (lv_at hl 2 rfl) ?_
                refine lv_iconst (v := 3) hx hb dX2_worth_139 (by decide) ?_
                refine lv_icmp_ne (tgt := 177) hx hb dX2_worth_140 (by decide) (fun c11 => ?_) (fun c11 => ?_)
                · have hq := hq.1 c11
                  obtain ⟨x1_12, ex1_12⟩ : ∃ y : Int32, y = x1 + (-1) := ⟨_, rfl⟩
                  have hq := hq x1_12 ex1_12
                  refine lv_iinc (v := x1_12) (lv' := [(1, .int x1_12), (2, .int x2_6), (5, .int x5_5), (4, .int x4_4), (0, .ref (G.2.2 o)), (3, .int x3)]) hx hb dX2_worth_177 hl (k := 4) rfl (by rw [ex1_12]; rfl) (by decide) rfl (fun ls hl => ?_)
                  refine lv_iload hx hb dX2_worth_180 (lv_at hl 3 rfl) ?_
                  refine lv_bipush (v := 47) hx hb dX2_worth_182 (by decide) ?_
                  refine lv_icmp_ne (tgt := 198) hx hb dX2_worth_184 (by decide) (fun c13 => ?_) (fun c13 => ?_)
                  · have hq := hq.1 c13
                    exact k_X2_worth_198 ho C hK hX6 hW (lv_sub hl [4, 0, 1, 5, 3] rfl) hq
                  · have hq := hq.2 c13
                    refine lv_aload_n hx hb dX2_worth_187 rfl (lv_at hl 4 rfl) ?_
                    refine gt2_4 C hK hW ho (List.mem_cons_of_mem _ mw89) (fun _ h9 => List.mem_cons_of_mem _ (inU_wsX20 _ h9)) dX2_worth_188 ?_
                    refine lv_iload_n hx hb dX2_worth_191 rfl (lv_at hl 0 rfl) ?_
                    refine k_iald C hK hW (shC_lt (sl2_4 ho).1 (by decide)) (ceC_14 (sl2_4 ho).1 (sl2_4 ho).2) hq.1 dX2_worth_192 ?_
                    have hq := hq.2
                    refine lv_if_ne (tgt := 198) hx hb dX2_worth_193 (by decide) (fun c14 => ?_) (fun c14 => ?_)
                    · have hq := hq.1 c14
                      exact k_X2_worth_198 ho C hK hX6 hW (lv_sub hl [4, 0, 1, 5, 3] rfl) hq
                    · have hq := hq.2 c14
                      refine lv_iconst (v := 0) hx hb dX2_worth_196 (by decide) ?_
                      exact k_iret rfl C hW dX2_worth_197 hq
                · have hq := hq.2 c11
                  obtain ⟨x1_15, ex1_15⟩ : ∃ y : Int32, y = x1 + (-2) := ⟨_, rfl⟩
                  have hq := hq x1_15 ex1_15
                  refine lv_iinc (v := x1_15) (lv' := [(1, .int x1_15), (2, .int x2_6), (5, .int x5_5), (4, .int x4_4), (0, .ref (G.2.2 o)), (3, .int x3)]) hx hb dX2_worth_143 hl (k := 4) rfl (by rw [ex1_15]; rfl) (by decide) rfl (fun ls hl => ?_)
                  refine lv_aload_n hx hb dX2_worth_146 rfl (lv_at hl 4 rfl) ?_
                  refine gt2_4 C hK hW ho (List.mem_cons_of_mem _ mw89) (fun _ h9 => List.mem_cons_of_mem _ (inU_wsX20 _ h9)) dX2_worth_147 ?_
                  refine lv_iload_n hx hb dX2_worth_150 rfl (lv_at hl 0 rfl) ?_
                  refine k_iald C hK hW (shC_lt (sl2_4 ho).1 (by decide)) (ceC_14 (sl2_4 ho).1 (sl2_4 ho).2) hq.1 dX2_worth_151 ?_
                  have hq := hq.2
                  refine lv_aload_n hx hb dX2_worth_152 rfl (lv_at hl 4 rfl) ?_
                  refine gt2_4 C hK hW ho (List.mem_cons_of_mem _ mw89) (fun _ h9 => List.mem_cons_of_mem _ (inU_wsX20 _ h9)) dX2_worth_153 ?_
                  refine lv_iload_n hx hb dX2_worth_156 rfl (lv_at hl 0 rfl) ?_
                  refine lv_iconst (v := 1) hx hb dX2_worth_157 (by decide) ?_
                  refine lv_iadd hx hb dX2_worth_158 ?_
                  refine k_iald C hK hW (shC_lt (sl2_4 ho).1 (by decide)) (ceC_14 (sl2_4 ho).1 (sl2_4 ho).2) hq.1 dX2_worth_159 ?_
                  have hq := hq.2
                  refine lv_icmp_ge (tgt := 167) hx hb dX2_worth_160 (by decide) (fun c16 => ?_) (fun c16 => ?_)
                  · have hq := hq.1 c16
                    refine lv_iload_n hx hb dX2_worth_167 rfl (lv_at hl 1 rfl) ?_
                    refine lv_iload hx hb dX2_worth_168 (lv_at hl 2 rfl) ?_
                    refine va_mmax hx hb (C.2.2.2.1.trans hl.1.symm) C.2.2.2.2.1 (C.2.2.2.2.2.1 _ (List.mem_cons_of_mem _ mw512)) (C.2.2.2.2.2.1 _ (List.mem_cons_of_mem _ mw513)) (C.2.2.2.2.2.1 _ (List.mem_cons_of_mem _ mw510)) (C.2.2.2.2.2.1 _ (List.mem_cons_of_mem _ mw514)) (Nat.le_of_ble_eq_true rfl) (Nat.le_of_ble_eq_true rfl) (Nat.le_refl 0) (Nat.le_refl 0) dX2_worth_170 ?_
                    refine lv_topi (fun x2_17 ex2_17 => ?_)
                    have hq := hq x2_17 ex2_17
                    refine lv_istore_n (lv' := [(2, .int x2_17), (1, .int x1_15), (5, .int x5_5), (4, .int x4_4), (0, .ref (G.2.2 o)), (3, .int x3)]) hx hb dX2_worth_173 rfl hl (by decide) rfl (fun ls hl => ?_)
                    refine lv_goto (tgt := 225) hx hb dX2_worth_174 (by decide) ?_
                    obtain ⟨x3_18, ex3_18⟩ : ∃ y : Int32, y = x3 + 1 := ⟨_, rfl⟩
                    have hq := hq x3_18 ex3_18
                    refine lv_iinc (v := x3_18) (lv' := [(3, .int x3_18), (2, .int x2_17), (1, .int x1_15), (5, .int x5_5), (4, .int x4_4), (0, .ref (G.2.2 o))]) hx hb dX2_worth_225 hl (k := 5) rfl (by rw [ex3_18]; rfl) (by decide) rfl (fun ls hl => ?_)
                    refine lv_goto (tgt := 6) hx hb dX2_worth_228 (by decide) ?_
                    exact hX6 _ _ _ _ _ _ _ hW (lv_sub hl [5, 2, 1, 0] rfl) hq
                  · have hq := hq.2 c16
                    refine lv_iload_n hx hb dX2_worth_163 rfl (lv_at hl 1 rfl) ?_
                    refine lv_goto (tgt := 173) hx hb dX2_worth_164 (by decide) ?_
                    refine lv_istore_n (lv' := [(2, .int x2_6), (1, .int x1_15), (5, .int x5_5), (4, .int x4_4), (0, .ref (G.2.2 o)), (3, .int x3)]) hx hb dX2_worth_173 rfl hl (by decide) rfl (fun ls hl => ?_)
                    refine lv_goto (tgt := 225) hx hb dX2_worth_174 (by decide) ?_
                    obtain ⟨x3_19, ex3_19⟩ : ∃ y : Int32, y = x3 + 1 := ⟨_, rfl⟩
                    have hq := hq x3_19 ex3_19
                    refine lv_iinc (v := x3_19) (lv' := [(3, .int x3_19), (2, .int x2_6), (1, .int x1_15), (5, .int x5_5), (4, .int x4_4), (0, .ref (G.2.2 o))]) hx hb dX2_worth_225 hl (k := 5) rfl (by rw [ex3_19]; rfl) (by decide) rfl (fun ls hl => ?_)
                    refine lv_goto (tgt := 6) hx hb dX2_worth_228 (by decide) ?_
                    exact hX6 _ _ _ _ _ _ _ hW (lv_sub hl [5, 2, 1, 0] rfl) hq
              · have hq := hq.2 c10
                refine lv_iconst (v := 0) hx hb dX2_worth_135 (by decide) ?_
                exact k_iret rfl C hW dX2_worth_136 hq
            · have hq := hq.2 c9
              refine lv_iload_n hx hb dX2_worth_113 rfl (lv_at hl 4 rfl) ?_
              refine lv_if_le (tgt := 128) hx hb dX2_worth_114 (by decide) (fun c20 => ?_) (fun c20 => ?_)
              · have hq := hq.1 c20
                refine lv_iconst (v := 0) hx hb dX2_worth_128 (by decide) ?_
                exact k_iret rfl C hW dX2_worth_129 hq
              · have hq := hq.2 c20
                refine lv_aload_n hx hb dX2_worth_117 rfl (lv_at hl 3 rfl) ?_
                refine gt2_4 C hK hW ho (List.mem_cons_of_mem _ mw89) (fun _ h9 => List.mem_cons_of_mem _ (inU_wsX20 _ h9)) dX2_worth_118 ?_
                refine lv_iload_n hx hb dX2_worth_121 rfl (lv_at hl 4 rfl) ?_
                refine lv_iconst (v := 1) hx hb dX2_worth_122 (by decide) ?_
                refine lv_isub hx hb dX2_worth_123 ?_
                refine k_iald C hK hW (shC_lt (sl2_4 ho).1 (by decide)) (ceC_14 (sl2_4 ho).1 (sl2_4 ho).2) hq.1 dX2_worth_124 ?_
                have hq := hq.2
                refine lv_goto (tgt := 129) hx hb dX2_worth_125 (by decide) ?_
                exact k_iret rfl C hW dX2_worth_129 hq
          · have hq := hq.2 c8
            refine lv_aload_n hx hb dX2_worth_72 rfl (lv_at hl 3 rfl) ?_
            refine gt2_4 C hK hW ho (List.mem_cons_of_mem _ mw89) (fun _ h9 => List.mem_cons_of_mem _ (inU_wsX20 _ h9)) dX2_worth_73 ?_
            refine lv_iload_n hx hb dX2_worth_76 rfl (lv_at hl 4 rfl) ?_
            refine lv_iload hx hb dX2_worth_77 (lv_at hl 1 rfl) ?_
            refine lv_if_lt (tgt := 99) hx hb dX2_worth_79 (by decide) (fun c21 => ?_) (fun c21 => ?_)
            · have hq := hq.1 c21
              refine lv_iconst (v := 0) hx hb dX2_worth_99 (by decide) ?_
              exact k_X2_worth_100 ho C hK hX6 hW (lv_sub hl [3, 4, 0, 5] rfl) hq
            · have hq := hq.2 c21
              refine lv_iload hx hb dX2_worth_82 (lv_at hl 1 rfl) ?_
              refine lv_bipush (v := 6) hx hb dX2_worth_84 (by decide) ?_
              refine lv_icmp_ge (tgt := 99) hx hb dX2_worth_86 (by decide) (fun c22 => ?_) (fun c22 => ?_)
              · have hq := hq.1 c22
                refine lv_iconst (v := 0) hx hb dX2_worth_99 (by decide) ?_
                exact k_X2_worth_100 ho C hK hX6 hW (lv_sub hl [3, 4, 0, 5] rfl) hq
              · have hq := hq.2 c22
                refine lv_aload_n hx hb dX2_worth_89 rfl (lv_at hl 3 rfl) ?_
                refine gt2_3 C hK hW ho (List.mem_cons_of_mem _ mw88) (fun _ h9 => List.mem_cons_of_mem _ (inU_wsX20 _ h9)) dX2_worth_90 ?_
                refine lv_iload hx hb dX2_worth_93 (lv_at hl 1 rfl) ?_
                refine k_iald C hK hW (shC_lt (sl2_3 ho).1 (by decide)) (ceC_14 (sl2_3 ho).1 (sl2_3 ho).2) hq.1 dX2_worth_95 ?_
                have hq := hq.2
                refine lv_goto (tgt := 100) hx hb dX2_worth_96 (by decide) ?_
                exact k_X2_worth_100 ho C hK hX6 hW (lv_sub hl [3, 4, 0, 5] rfl) hq
        · have hq := hq.2 c7
          refine lv_aload_n hx hb dX2_worth_52 rfl (lv_at hl 3 rfl) ?_
          refine gt2_4 C hK hW ho (List.mem_cons_of_mem _ mw89) (fun _ h9 => List.mem_cons_of_mem _ (inU_wsX20 _ h9)) dX2_worth_53 ?_
          refine lv_iload_n hx hb dX2_worth_56 rfl (lv_at hl 4 rfl) ?_
          refine lv_iload hx hb dX2_worth_57 (lv_at hl 1 rfl) ?_
          refine k_iast okC C hK hW (shC_lt (sl2_4 ho).1 (by decide)) (fun g9 => ceC_14 (sl2_4 ho).1 (sl2_4 ho).2) hq.1 dX2_worth_59 (fun H locs hW => ?_)
          have hq := hq.2
          obtain ⟨h23, eh23⟩ : ∃ z : hp, z = sI h (o + 4) (ix x1) x5_5 := ⟨_, rfl⟩
          rw [← eh23] at hW
          have hq := hq h23 eh23
          obtain ⟨x1_24, ex1_24⟩ : ∃ y : Int32, y = x1 + 1 := ⟨_, rfl⟩
          have hq := hq x1_24 ex1_24
          refine lv_iinc (v := x1_24) (lv' := [(1, .int x1_24), (2, .int x2_6), (5, .int x5_5), (4, .int x4_4), (0, .ref (G.2.2 o)), (3, .int x3)]) hx hb dX2_worth_60 hl (k := 4) rfl (by rw [ex1_24]; rfl) (by decide) rfl (fun ls hl => ?_)
          refine lv_goto (tgt := 225) hx hb dX2_worth_63 (by decide) ?_
          obtain ⟨x3_25, ex3_25⟩ : ∃ y : Int32, y = x3 + 1 := ⟨_, rfl⟩
          have hq := hq x3_25 ex3_25
          refine lv_iinc (v := x3_25) (lv' := [(3, .int x3_25), (1, .int x1_24), (2, .int x2_6), (5, .int x5_5), (4, .int x4_4), (0, .ref (G.2.2 o))]) hx hb dX2_worth_225 hl (k := 5) rfl (by rw [ex3_25]; rfl) (by decide) rfl (fun ls hl => ?_)
          refine lv_goto (tgt := 6) hx hb dX2_worth_228 (by decide) ?_
          exact hX6 _ _ _ _ _ _ _ hW (lv_sub hl [5, 1, 2, 0] rfl) hq
theorem k_X2_worth_6 {o : Nat} (ho : shC o = 2) {Q : Int32 → hp → Prop} (C : kC p s m args meth c cX2_worth 6 (some .int) RX2 wUX2_worth) (hK : kK G s) {x1 : Int32} {x2 : Int32} {x3 : Int32} {h : hp} {H : Heap} {locs : List Loc} {ls : Array Slot} (hW : kW SC G h (aS SC G) s H locs) (hl : lv_has ls 6 [(0, .ref (G.2.2 o)), (1, .int x1), (2, .int x2), (3, .int x3)]) (hq : w_X2_worth_6 o Q x1 x2 x3 h) : W p l e rmX2_worth s m args below meth c H locs 0 0 (MQ below (va_Qi Q (kB SC G) (aS SC G)) args s 0 0 (aS SC G)) (F0 m 6 ls []) := by
  have key := hq (fun (q : Int32 × Int32 × Int32 × hp) => ∀ (H : Heap) (locs : List Loc) (ls : Array Slot), kW SC G q.2.2.2 (aS SC G) s H locs → lv_has ls 6 [(0, .ref (G.2.2 o)), (1, .int q.1), (2, .int q.2.1), (3, .int q.2.2.1)] → W p l e rmX2_worth s m args below meth c H locs 0 0 (MQ below (va_Qi Q (kB SC G) (aS SC G)) args s 0 0 (aS SC G)) (F0 m 6 ls []))
    (fun q hq H locs ls hW hl => k_X2_worth_b6 ho C hK (fun x1 x2 x3 h H locs ls hW hl hI => hI H locs ls hW hl) hW hl hq)
  exact key _ _ _ hW hl
theorem k_X2_worth_0 {o : Nat} (ho : shC o = 2) {Q : Int32 → hp → Prop} {h : hp} (C : kC p s m args meth c cX2_worth 6 (some .int) RX2 wUX2_worth) (hK : kK G s) {H : Heap} {locs : List Loc} {ls : Array Slot} (hW : kW SC G h (aS SC G) s H locs) (hl : lv_has ls 6 [(0, .ref (G.2.2 o))]) (hq : w_X2_worth_0 o Q h) : W p l e rmX2_worth s m args below meth c H locs 0 0 (MQ below (va_Qi Q (kB SC G) (aS SC G)) args s 0 0 (aS SC G)) (F0 m 0 ls []) := by
  have hx := C.1
  have hb := C.2.1
  unfold w_X2_worth_0 at hq
  refine lv_iconst (v := 0) hx hb dX2_worth_0 (by decide) ?_
  refine lv_istore_n (lv' := [(1, .int 0), (0, .ref (G.2.2 o))]) hx hb dX2_worth_1 rfl hl (by decide) rfl (fun ls hl => ?_)
  refine lv_iconst (v := 0) hx hb dX2_worth_2 (by decide) ?_
  refine lv_istore_n (lv' := [(2, .int 0), (1, .int 0), (0, .ref (G.2.2 o))]) hx hb dX2_worth_3 rfl hl (by decide) rfl (fun ls hl => ?_)
  refine lv_iconst (v := 0) hx hb dX2_worth_4 (by decide) ?_
  refine lv_istore_n (lv' := [(3, .int 0), (2, .int 0), (1, .int 0), (0, .ref (G.2.2 o))]) hx hb dX2_worth_5 rfl hl (by decide) rfl (fun ls hl => ?_)
  exact k_X2_worth_6 ho C hK hW (lv_sub hl [3, 2, 1, 0] rfl) hq
theorem c_X2_worth (l : Launch) (G : wG) {o : Nat} (ho : shC o = 2) (h : hp) (Q : Int32 → hp → Prop) (hq : w_X2_worth o h Q) : ctI l SC G yX2_worth wUX2_worth rmX2_worth h [.ref (G.2.2 o)] Q := by
  refine k_start (cc := cX2_worth) (maxL := 6) (rt := (some .int)) (own := RX2) (by decide +kernel) rfl rfl (Nat.le_of_ble_eq_true rfl) ?_
  intro p e s m below meth c ls C hK hW hl
  exact k_X2_worth_0 ho C hK hW hl hq
theorem k_X2_numberAt_0 {o : Nat} (ho : shC o = 2) {Q : Int32 → hp → Prop} {x1 : Int32} {x2 : Int32} {x3 : Int32} {h : hp} (C : kC p s m args meth c cX2_numberAt 4 (some .int) RX2 wUX2_numberAt) (hK : kK G s) {H : Heap} {locs : List Loc} {ls : Array Slot} (hW : kW SC G h (aS SC G) s H locs) (hl : lv_has ls 4 [(0, .ref (G.2.2 o)), (1, .int x1), (2, .int x2), (3, .int x3)]) (hq : w_X2_numberAt_0 o Q x1 x2 x3 h) : W p l e rmX2_numberAt s m args below meth c H locs 0 0 (MQ below (va_Qi Q (kB SC G) (aS SC G)) args s 0 0 (aS SC G)) (F0 m 0 ls []) := by
  have hx := C.1
  have hb := C.2.1
  unfold w_X2_numberAt_0 at hq
  refine lv_aload_n hx hb dX2_numberAt_0 rfl (lv_at hl 0 rfl) ?_
  refine lv_iload_n hx hb dX2_numberAt_1 rfl (lv_at hl 1 rfl) ?_
  refine lv_iload_n hx hb dX2_numberAt_2 rfl (lv_at hl 2 rfl) ?_
  refine lv_iload_n hx hb dX2_numberAt_3 rfl (lv_at hl 3 rfl) ?_
  refine lv_iconst (v := 0) hx hb dX2_numberAt_4 (by decide) ?_
  refine lv_iconst (v := 0) hx hb dX2_numberAt_5 (by decide) ?_
  refine lv_iconst (v := 0) hx hb dX2_numberAt_6 (by decide) ?_
  refine k_cv hW (va_runV (As := [.int x1, .int x2, .int x3, .int 0, .int 0, .int 0]) (rest := []) (k_fix C) (c_X2_look l G ho h x1 x2 x3 0 0 0 _ hq) (cwV 6 C.2.2.2.2.2.1 (gU_V mw515 mw516 mw517 mw69 mw518) rfl rfl rfl (by decide +kernel) ⟨Nat.le_of_ble_eq_true rfl, Nat.le_of_ble_eq_true rfl⟩) (k_preV hK hW (shC_lt ho (by decide)) (ceC_2 ho) (q := (RX2, TX2, 5)) rfl) rfl rfl hl.1 rfl (lv_room (Nat.le_of_ble_eq_true rfl)) dX2_numberAt_7 ⟨Nat.le_refl 0, Nat.le_refl 0⟩) (fun h1 H locs hq hW => ?_)
  refine lv_bipush (v := (-99)) hx hb dX2_numberAt_10 (by decide) ?_
  refine lv_bipush (v := 99) hx hb dX2_numberAt_12 (by decide) ?_
  refine lv_aload_n hx hb dX2_numberAt_14 rfl (lv_at hl 0 rfl) ?_
  refine k_ci hW (va_runV (As := []) (rest := [.int 99, .int (-99)]) (k_fix C) (c_X2_worth l G ho h1 _ hq) (cwV 0 C.2.2.2.2.2.1 (gU_V mw519 mw520 mw521 mw69 mw522) rfl rfl rfl (by decide +kernel) ⟨Nat.le_of_ble_eq_true rfl, Nat.le_of_ble_eq_true rfl⟩) (k_preV hK hW (shC_lt ho (by decide)) (ceC_2 ho) (q := (RX2, TX2, 5)) rfl) rfl rfl hl.1 rfl (lv_room (Nat.le_of_ble_eq_true rfl)) dX2_numberAt_15 ⟨Nat.le_refl 0, Nat.le_refl 0⟩) (fun r3 h2 H locs hq hW => ?_)
  refine va_mmin hx hb (C.2.2.2.1.trans hl.1.symm) C.2.2.2.2.1 (C.2.2.2.2.2.1 _ (List.mem_cons_of_mem _ mw508)) (C.2.2.2.2.2.1 _ (List.mem_cons_of_mem _ mw509)) (C.2.2.2.2.2.1 _ (List.mem_cons_of_mem _ mw510)) (C.2.2.2.2.2.1 _ (List.mem_cons_of_mem _ mw511)) (Nat.le_of_ble_eq_true rfl) (Nat.le_of_ble_eq_true rfl) (Nat.le_refl 0) (Nat.le_refl 0) dX2_numberAt_18 ?_
  refine va_mmax hx hb (C.2.2.2.1.trans hl.1.symm) C.2.2.2.2.1 (C.2.2.2.2.2.1 _ (List.mem_cons_of_mem _ mw512)) (C.2.2.2.2.2.1 _ (List.mem_cons_of_mem _ mw513)) (C.2.2.2.2.2.1 _ (List.mem_cons_of_mem _ mw510)) (C.2.2.2.2.2.1 _ (List.mem_cons_of_mem _ mw514)) (Nat.le_of_ble_eq_true rfl) (Nat.le_of_ble_eq_true rfl) (Nat.le_refl 0) (Nat.le_refl 0) dX2_numberAt_21 ?_
  exact k_iret rfl C hW dX2_numberAt_24 hq
theorem c_X2_numberAt (l : Launch) (G : wG) {o : Nat} (ho : shC o = 2) (h : hp) (x1 : Int32) (x2 : Int32) (x3 : Int32) (Q : Int32 → hp → Prop) (hq : w_X2_numberAt o h x1 x2 x3 Q) : ctI l SC G yX2_numberAt wUX2_numberAt rmX2_numberAt h [.ref (G.2.2 o), .int x1, .int x2, .int x3] Q := by
  refine k_start (cc := cX2_numberAt) (maxL := 4) (rt := (some .int)) (own := RX2) (by decide +kernel) rfl rfl (Nat.le_of_ble_eq_true rfl) ?_
  intro p e s m below meth c ls C hK hW hl
  exact k_X2_numberAt_0 ho C hK hW hl hq
theorem k_X2_question_0 {o : Nat} (ho : shC o = 2) {Q : Int32 → hp → Prop} {x1 : Int32} {x2 : Int64} {x4 : Int32} {h : hp} (C : kC p s m args meth c cX2_question 5 (some .int) RX2 wUX2_question) (hK : kK G s) {H : Heap} {locs : List Loc} {ls : Array Slot} (hW : kW SC G h (aS SC G) s H locs) (hl : lv_has ls 5 [(0, .ref (G.2.2 o)), (1, .int x1), (2, .long x2), (4, .int x4)]) (hq : w_X2_question_0 o Q x1 x2 x4 h) : W p l e rmX2_question s m args below meth c H locs 0 0 (MQ below (va_Qi Q (kB SC G) (aS SC G)) args s 0 0 (aS SC G)) (F0 m 0 ls []) := by
  have hx := C.1
  have hb := C.2.1
  unfold w_X2_question_0 at hq
  refine lv_aload_n hx hb dX2_question_0 rfl (lv_at hl 0 rfl) ?_
  refine lv_iconst (v := 0) hx hb dX2_question_1 (by decide) ?_
  refine lv_iconst (v := 0) hx hb dX2_question_2 (by decide) ?_
  refine lv_iconst (v := 0) hx hb dX2_question_3 (by decide) ?_
  refine lv_iload_n hx hb dX2_question_4 rfl (lv_at hl 1 rfl) ?_
  refine lv_lload_n hx hb dX2_question_5 rfl (lv_at hl 2 rfl) ?_
  refine lv_ldc2 (v := 1000) hx hb C.2.2.2.2.1 (C.2.2.2.2.2.1 _ (List.mem_cons_of_mem _ mw1141)) dX2_question_6 ?_
  refine k_lrem hx hb dX2_question_9 (by decide) ?_
  refine lv_l2i (v := (lrem x2 1000).toInt32) hx hb dX2_question_10 rfl ?_
  refine lv_iload hx hb dX2_question_11 (lv_at hl 3 rfl) ?_
  refine k_cv hW (va_runV (As := [.int 0, .int 0, .int 0, .int x1, .int ((lrem x2 1000).toInt32), .int x4]) (rest := []) (k_fix C) (c_X2_look l G ho h 0 0 0 x1 ((lrem x2 1000).toInt32) x4 _ hq) (cwV 6 C.2.2.2.2.2.1 (gU_V mw515 mw516 mw517 mw69 mw518) rfl rfl rfl (by decide +kernel) ⟨Nat.le_of_ble_eq_true rfl, Nat.le_of_ble_eq_true rfl⟩) (k_preV hK hW (shC_lt ho (by decide)) (ceC_2 ho) (q := (RX2, TX2, 5)) rfl) rfl rfl hl.1 rfl (lv_room (Nat.le_of_ble_eq_true rfl)) dX2_question_13 ⟨Nat.le_refl 0, Nat.le_refl 0⟩) (fun h1 H locs hq hW => ?_)
  refine lv_bipush (v := (-99)) hx hb dX2_question_16 (by decide) ?_
  refine lv_bipush (v := 99) hx hb dX2_question_18 (by decide) ?_
  refine lv_aload_n hx hb dX2_question_20 rfl (lv_at hl 0 rfl) ?_
  refine k_ci hW (va_runV (As := []) (rest := [.int 99, .int (-99)]) (k_fix C) (c_X2_worth l G ho h1 _ hq) (cwV 0 C.2.2.2.2.2.1 (gU_V mw519 mw520 mw521 mw69 mw522) rfl rfl rfl (by decide +kernel) ⟨Nat.le_of_ble_eq_true rfl, Nat.le_of_ble_eq_true rfl⟩) (k_preV hK hW (shC_lt ho (by decide)) (ceC_2 ho) (q := (RX2, TX2, 5)) rfl) rfl rfl hl.1 rfl (lv_room (Nat.le_of_ble_eq_true rfl)) dX2_question_21 ⟨Nat.le_refl 0, Nat.le_refl 0⟩) (fun r3 h2 H locs hq hW => ?_)
  refine va_mmin hx hb (C.2.2.2.1.trans hl.1.symm) C.2.2.2.2.1 (C.2.2.2.2.2.1 _ (List.mem_cons_of_mem _ mw508)) (C.2.2.2.2.2.1 _ (List.mem_cons_of_mem _ mw509)) (C.2.2.2.2.2.1 _ (List.mem_cons_of_mem _ mw510)) (C.2.2.2.2.2.1 _ (List.mem_cons_of_mem _ mw511)) (Nat.le_of_ble_eq_true rfl) (Nat.le_of_ble_eq_true rfl) (Nat.le_refl 0) (Nat.le_refl 0) dX2_question_24 ?_
  refine va_mmax hx hb (C.2.2.2.1.trans hl.1.symm) C.2.2.2.2.1 (C.2.2.2.2.2.1 _ (List.mem_cons_of_mem _ mw512)) (C.2.2.2.2.2.1 _ (List.mem_cons_of_mem _ mw513)) (C.2.2.2.2.2.1 _ (List.mem_cons_of_mem _ mw510)) (C.2.2.2.2.2.1 _ (List.mem_cons_of_mem _ mw514)) (Nat.le_of_ble_eq_true rfl) (Nat.le_of_ble_eq_true rfl) (Nat.le_refl 0) (Nat.le_refl 0) dX2_question_27 ?_
  exact k_iret rfl C hW dX2_question_30 hq
theorem c_X2_question (l : Launch) (G : wG) {o : Nat} (ho : shC o = 2) (h : hp) (x1 : Int32) (x2 : Int64) (x4 : Int32) (Q : Int32 → hp → Prop) (hq : w_X2_question o h x1 x2 x4 Q) : ctI l SC G yX2_question wUX2_question rmX2_question h [.ref (G.2.2 o), .int x1, .long x2, .int x4] Q := by
  refine k_start (cc := cX2_question) (maxL := 5) (rt := (some .int)) (own := RX2) (by decide +kernel) rfl rfl (Nat.le_of_ble_eq_true rfl) ?_
  intro p e s m below meth c ls C hK hW hl
  exact k_X2_question_0 ho C hK hW hl hq
theorem k_X3_begin_0 {Q : hp → Prop} {h : hp} (C : kC p s m args meth c cX3_begin 1 none RX3 wUX3_begin) (hK : kK G s) {H : Heap} {locs : List Loc} {ls : Array Slot} (hW : kW SC G h (aS SC G) s H locs) (hl : lv_has ls 1 [(0, .ref (G.2.2 8))]) (hq : w_X3_begin_0 Q h) : W p l e rmX3_begin s m args below meth c H locs 0 0 (MQ below (va_Qv Q (kB SC G) (aS SC G)) args s 0 0 (aS SC G)) (F0 m 0 ls []) := by
  have hx := C.1
  have hb := C.2.1
  unfold w_X3_begin_0 at hq
  refine lv_aload_n hx hb dX3_begin_0 rfl (lv_at hl 0 rfl) ?_
  refine gt3_0 C hK hW (rfl : shC 8 = 3) (List.mem_cons_of_mem _ mw195) (fun _ h9 => List.mem_cons_of_mem _ (inU_wsX30 _ h9)) dX3_begin_1 ?_
  refine k_cv hW (va_runV (As := []) (rest := []) (k_fix C) (c_X2_clear l G (rfl : shC 9 = 2) h _ hq) (cwV 0 C.2.2.2.2.2.1 (gU_V mw458 mw111 mw112 mw69 mw113) rfl rfl rfl (by decide +kernel) ⟨Nat.le_of_ble_eq_true rfl, Nat.le_of_ble_eq_true rfl⟩) (k_preV hK hW (shC_lt (rfl : shC 9 = 2) (by decide)) (ceC_2 (rfl : shC 9 = 2)) (q := (RX2, TX2, 5)) rfl) rfl rfl hl.1 rfl (lv_room (Nat.le_of_ble_eq_true rfl)) dX3_begin_4 ⟨Nat.le_refl 0, Nat.le_refl 0⟩) (fun h1 H locs hq hW => ?_)
  refine lv_aload_n hx hb dX3_begin_7 rfl (lv_at hl 0 rfl) ?_
  refine lv_iconst (v := 0) hx hb dX3_begin_8 (by decide) ?_
  refine pt3_1 C hK hW (rfl : shC 8 = 3) (List.mem_cons_of_mem _ mw196) (fun _ h9 => List.mem_cons_of_mem _ (inU_wsX30 _ h9)) isZ_0 dX3_begin_9 (fun h2 H locs eh2 hW => ?_)
  have hq := hq h2 eh2
  refine lv_aload_n hx hb dX3_begin_12 rfl (lv_at hl 0 rfl) ?_
  refine lv_iconst (v := 1) hx hb dX3_begin_13 (by decide) ?_
  refine pt3_2 C hK hW (rfl : shC 8 = 3) (List.mem_cons_of_mem _ mw197) (fun _ h9 => List.mem_cons_of_mem _ (inU_wsX30 _ h9)) isZ_1 dX3_begin_14 (fun h3 H locs eh3 hW => ?_)
  have hq := hq h3 eh3
  refine lv_aload_n hx hb dX3_begin_17 rfl (lv_at hl 0 rfl) ?_
  refine lv_iconst (v := 1) hx hb dX3_begin_18 (by decide) ?_
  refine pt3_3 C hK hW (rfl : shC 8 = 3) (List.mem_cons_of_mem _ mw198) (fun _ h9 => List.mem_cons_of_mem _ (inU_wsX30 _ h9)) isZ_1 dX3_begin_19 (fun h4 H locs eh4 hW => ?_)
  have hq := hq h4 eh4
  refine lv_aload_n hx hb dX3_begin_22 rfl (lv_at hl 0 rfl) ?_
  refine lv_bipush (v := 59) hx hb dX3_begin_23 (by decide) ?_
  refine pt3_4 C hK hW (rfl : shC 8 = 3) (List.mem_cons_of_mem _ mw199) (fun _ h9 => List.mem_cons_of_mem _ (inU_wsX30 _ h9)) dX3_begin_25 (fun h5 H locs eh5 hW => ?_)
  have hq := hq h5 eh5
  refine lv_aload_n hx hb dX3_begin_28 rfl (lv_at hl 0 rfl) ?_
  refine lv_iconst (v := 0) hx hb dX3_begin_29 (by decide) ?_
  refine pt3_5 C hK hW (rfl : shC 8 = 3) (List.mem_cons_of_mem _ mw200) (fun _ h9 => List.mem_cons_of_mem _ (inU_wsX30 _ h9)) dX3_begin_30 (fun h6 H locs eh6 hW => ?_)
  have hq := hq h6 eh6
  refine lv_aload_n hx hb dX3_begin_33 rfl (lv_at hl 0 rfl) ?_
  refine lv_iconst (v := 0) hx hb dX3_begin_34 (by decide) ?_
  refine pt3_6 C hK hW (rfl : shC 8 = 3) (List.mem_cons_of_mem _ mw201) (fun _ h9 => List.mem_cons_of_mem _ (inU_wsX30 _ h9)) dX3_begin_35 (fun h7 H locs eh7 hW => ?_)
  have hq := hq h7 eh7
  refine lv_aload_n hx hb dX3_begin_38 rfl (lv_at hl 0 rfl) ?_
  refine lv_iconst (v := 0) hx hb dX3_begin_39 (by decide) ?_
  refine pt3_9 C hK hW (rfl : shC 8 = 3) (List.mem_cons_of_mem _ mw204) (fun _ h9 => List.mem_cons_of_mem _ (inU_wsX30 _ h9)) dX3_begin_40 (fun h8 H locs eh8 hW => ?_)
  have hq := hq h8 eh8
  exact k_vret rfl C hW dX3_begin_43 hq
theorem c_X3_begin (l : Launch) (G : wG) (h : hp) (Q : hp → Prop) (hq : w_X3_begin h Q) : ctV l SC G yX3_begin wUX3_begin rmX3_begin h [.ref (G.2.2 8)] Q := by
  refine k_start (cc := cX3_begin) (maxL := 1) (rt := none) (own := RX3) (by decide +kernel) rfl rfl (Nat.le_of_ble_eq_true rfl) ?_
  intro p e s m below meth c ls C hK hW hl
  exact k_X3_begin_0 C hK hW hl hq
theorem k_X3_branchBegins_0 {Q : Int32 → hp → Prop} {h : hp} (C : kC p s m args meth c cX3_branchBegins 1 (some .int) RX3 wUX3_branchBegins) (hK : kK G s) {H : Heap} {locs : List Loc} {ls : Array Slot} (hW : kW SC G h (aS SC G) s H locs) (hl : lv_has ls 1 [(0, .ref (G.2.2 8))]) (hq : w_X3_branchBegins_0 Q h) : W p l e rmX3_branchBegins s m args below meth c H locs 0 0 (MQ below (va_Qi Q (kB SC G) (aS SC G)) args s 0 0 (aS SC G)) (F0 m 0 ls []) := by
  have hx := C.1
  have hb := C.2.1
  unfold w_X3_branchBegins_0 at hq
  refine lv_aload_n hx hb dX3_branchBegins_0 rfl (lv_at hl 0 rfl) ?_
  refine gt3_5 C hK hW (rfl : shC 8 = 3) (List.mem_cons_of_mem _ mw200) (fun _ h9 => List.mem_cons_of_mem _ (inU_wsX30 _ h9)) dX3_branchBegins_1 ?_
  refine lv_iconst (v := 4) hx hb dX3_branchBegins_4 (by decide) ?_
  refine lv_icmp_ne (tgt := 10) hx hb dX3_branchBegins_5 (by decide) (fun c1 => ?_) (fun c1 => ?_)
  · have hq := hq.1 c1
    refine lv_aload_n hx hb dX3_branchBegins_10 rfl (lv_at hl 0 rfl) ?_
    refine lv_dup hx hb dX3_branchBegins_11 rfl ?_
    refine gt3_5 C hK hW (rfl : shC 8 = 3) (List.mem_cons_of_mem _ mw200) (fun _ h9 => List.mem_cons_of_mem _ (inU_wsX30 _ h9)) dX3_branchBegins_12 ?_
    refine lv_iconst (v := 1) hx hb dX3_branchBegins_15 (by decide) ?_
    refine lv_iadd hx hb dX3_branchBegins_16 ?_
    refine pt3_5 C hK hW (rfl : shC 8 = 3) (List.mem_cons_of_mem _ mw200) (fun _ h9 => List.mem_cons_of_mem _ (inU_wsX30 _ h9)) dX3_branchBegins_17 (fun h2 H locs eh2 hW => ?_)
    have hq := hq h2 eh2
    refine lv_aload_n hx hb dX3_branchBegins_20 rfl (lv_at hl 0 rfl) ?_
    refine lv_bipush (v := 60) hx hb dX3_branchBegins_21 (by decide) ?_
    refine pt3_4 C hK hW (rfl : shC 8 = 3) (List.mem_cons_of_mem _ mw199) (fun _ h9 => List.mem_cons_of_mem _ (inU_wsX30 _ h9)) dX3_branchBegins_23 (fun h3 H locs eh3 hW => ?_)
    have hq := hq h3 eh3
    refine lv_iconst (v := 0) hx hb dX3_branchBegins_26 (by decide) ?_
    exact k_iret rfl C hW dX3_branchBegins_27 hq
  · have hq := hq.2 c1
    refine lv_iconst (v := 2) hx hb dX3_branchBegins_8 (by decide) ?_
    exact k_iret rfl C hW dX3_branchBegins_9 hq
theorem c_X3_branchBegins (l : Launch) (G : wG) (h : hp) (Q : Int32 → hp → Prop) (hq : w_X3_branchBegins h Q) : ctI l SC G yX3_branchBegins wUX3_branchBegins rmX3_branchBegins h [.ref (G.2.2 8)] Q := by
  refine k_start (cc := cX3_branchBegins) (maxL := 1) (rt := (some .int)) (own := RX3) (by decide +kernel) rfl rfl (Nat.le_of_ble_eq_true rfl) ?_
  intro p e s m below meth c ls C hK hW hl
  exact k_X3_branchBegins_0 C hK hW hl hq
theorem k_X3_letWait_0 {Q : hp → Prop} {x1 : Int32} {h : hp} (C : kC p s m args meth c cX3_letWait 2 none RX3 wUX3_letWait) (hK : kK G s) {H : Heap} {locs : List Loc} {ls : Array Slot} (hW : kW SC G h (aS SC G) s H locs) (hl : lv_has ls 2 [(0, .ref (G.2.2 8)), (1, .int x1)]) (hq : w_X3_letWait_0 Q x1 h) : W p l e rmX3_letWait s m args below meth c H locs 0 0 (MQ below (va_Qv Q (kB SC G) (aS SC G)) args s 0 0 (aS SC G)) (F0 m 0 ls []) := by
  have hx := C.1
  have hb := C.2.1
  unfold w_X3_letWait_0 at hq
  refine lv_aload_n hx hb dX3_letWait_0 rfl (lv_at hl 0 rfl) ?_
  refine gt3_9 C hK hW (rfl : shC 8 = 3) (List.mem_cons_of_mem _ mw204) (fun _ h9 => List.mem_cons_of_mem _ (inU_wsX30 _ h9)) dX3_letWait_1 ?_
  refine lv_bipush (v := 21) hx hb dX3_letWait_4 (by decide) ?_
  refine lv_icmp_ge (tgt := 29) hx hb dX3_letWait_6 (by decide) (fun c1 => ?_) (fun c1 => ?_)
  · have hq := hq.1 c1
    exact k_vret rfl C hW dX3_letWait_29 hq
  · have hq := hq.2 c1
    refine lv_aload_n hx hb dX3_letWait_9 rfl (lv_at hl 0 rfl) ?_
    refine gt3_8 C hK hW (rfl : shC 8 = 3) (List.mem_cons_of_mem _ mw203) (fun _ h9 => List.mem_cons_of_mem _ (inU_wsX30 _ h9)) dX3_letWait_10 ?_
    refine lv_aload_n hx hb dX3_letWait_13 rfl (lv_at hl 0 rfl) ?_
    refine gt3_9 C hK hW (rfl : shC 8 = 3) (List.mem_cons_of_mem _ mw204) (fun _ h9 => List.mem_cons_of_mem _ (inU_wsX30 _ h9)) dX3_letWait_14 ?_
    refine lv_iload_n hx hb dX3_letWait_17 rfl (lv_at hl 1 rfl) ?_
    refine k_iast okC C hK hW (shC_lt (rfl : shC 14 = 14) (by decide)) (fun g9 => ceC_14 (rfl : shC 14 = 14) (rfl : lnC 14 = 21)) hq.1 dX3_letWait_18 (fun H locs hW => ?_)
    have hq := hq.2
    obtain ⟨h2, eh2⟩ : ∃ z : hp, z = sI h 14 (ix (gI h 8 9)) x1 := ⟨_, rfl⟩
    rw [← eh2] at hW
    have hq := hq h2 eh2
    refine lv_aload_n hx hb dX3_letWait_19 rfl (lv_at hl 0 rfl) ?_
    refine lv_dup hx hb dX3_letWait_20 rfl ?_
    refine gt3_9 C hK hW (rfl : shC 8 = 3) (List.mem_cons_of_mem _ mw204) (fun _ h9 => List.mem_cons_of_mem _ (inU_wsX30 _ h9)) dX3_letWait_21 ?_
    refine lv_iconst (v := 1) hx hb dX3_letWait_24 (by decide) ?_
    refine lv_iadd hx hb dX3_letWait_25 ?_
    refine pt3_9 C hK hW (rfl : shC 8 = 3) (List.mem_cons_of_mem _ mw204) (fun _ h9 => List.mem_cons_of_mem _ (inU_wsX30 _ h9)) dX3_letWait_26 (fun h3 H locs eh3 hW => ?_)
    have hq := hq h3 eh3
    exact k_vret rfl C hW dX3_letWait_29 hq
theorem c_X3_letWait (l : Launch) (G : wG) (h : hp) (x1 : Int32) (Q : hp → Prop) (hq : w_X3_letWait h x1 Q) : ctV l SC G yX3_letWait wUX3_letWait rmX3_letWait h [.ref (G.2.2 8), .int x1] Q := by
  refine k_start (cc := cX3_letWait) (maxL := 2) (rt := none) (own := RX3) (by decide +kernel) rfl rfl (Nat.le_of_ble_eq_true rfl) ?_
  intro p e s m below meth c ls C hK hW hl
  exact k_X3_letWait_0 C hK hW hl hq
theorem k_X3_nestBegins_0 {Q : Int32 → hp → Prop} {h : hp} (C : kC p s m args meth c cX3_nestBegins 1 (some .int) RX3 wUX3_nestBegins) (hK : kK G s) {H : Heap} {locs : List Loc} {ls : Array Slot} (hW : kW SC G h (aS SC G) s H locs) (hl : lv_has ls 1 [(0, .ref (G.2.2 8))]) (hq : w_X3_nestBegins_0 Q h) : W p l e rmX3_nestBegins s m args below meth c H locs 0 0 (MQ below (va_Qi Q (kB SC G) (aS SC G)) args s 0 0 (aS SC G)) (F0 m 0 ls []) := by
  have hx := C.1
  have hb := C.2.1
  unfold w_X3_nestBegins_0 at hq
  refine lv_aload_n hx hb dX3_nestBegins_0 rfl (lv_at hl 0 rfl) ?_
  refine gt3_6 C hK hW (rfl : shC 8 = 3) (List.mem_cons_of_mem _ mw201) (fun _ h9 => List.mem_cons_of_mem _ (inU_wsX30 _ h9)) dX3_nestBegins_1 ?_
  refine lv_bipush (v := 6) hx hb dX3_nestBegins_4 (by decide) ?_
  refine lv_icmp_ne (tgt := 11) hx hb dX3_nestBegins_6 (by decide) (fun c1 => ?_) (fun c1 => ?_)
  · have hq := hq.1 c1
    refine lv_aload_n hx hb dX3_nestBegins_11 rfl (lv_at hl 0 rfl) ?_
    refine lv_dup hx hb dX3_nestBegins_12 rfl ?_
    refine gt3_6 C hK hW (rfl : shC 8 = 3) (List.mem_cons_of_mem _ mw201) (fun _ h9 => List.mem_cons_of_mem _ (inU_wsX30 _ h9)) dX3_nestBegins_13 ?_
    refine lv_iconst (v := 1) hx hb dX3_nestBegins_16 (by decide) ?_
    refine lv_iadd hx hb dX3_nestBegins_17 ?_
    refine pt3_6 C hK hW (rfl : shC 8 = 3) (List.mem_cons_of_mem _ mw201) (fun _ h9 => List.mem_cons_of_mem _ (inU_wsX30 _ h9)) dX3_nestBegins_18 (fun h2 H locs eh2 hW => ?_)
    have hq := hq h2 eh2
    refine lv_aload_n hx hb dX3_nestBegins_21 rfl (lv_at hl 0 rfl) ?_
    refine lv_bipush (v := 40) hx hb dX3_nestBegins_22 (by decide) ?_
    refine k_cv hW (va_runV (As := [.int 40]) (rest := []) (k_fix C) (c_X3_letWait l G h2 40 _ hq) (cwV 1 C.2.2.2.2.2.1 (gU_V mw471 mw472 mw473 mw55 mw474) rfl rfl rfl (by decide +kernel) ⟨Nat.le_of_ble_eq_true rfl, Nat.le_of_ble_eq_true rfl⟩) (k_preV hK hW (shC_lt (rfl : shC 8 = 3) (by decide)) (ceC_3 (rfl : shC 8 = 3)) (q := (RX3, TX3, 10)) rfl) rfl rfl hl.1 rfl (lv_room (Nat.le_of_ble_eq_true rfl)) dX3_nestBegins_24 ⟨Nat.le_refl 0, Nat.le_refl 0⟩) (fun h3 H locs hq hW => ?_)
    refine lv_iconst (v := 0) hx hb dX3_nestBegins_27 (by decide) ?_
    exact k_iret rfl C hW dX3_nestBegins_28 hq
  · have hq := hq.2 c1
    refine lv_iconst (v := 2) hx hb dX3_nestBegins_9 (by decide) ?_
    exact k_iret rfl C hW dX3_nestBegins_10 hq
theorem c_X3_nestBegins (l : Launch) (G : wG) (h : hp) (Q : Int32 → hp → Prop) (hq : w_X3_nestBegins h Q) : ctI l SC G yX3_nestBegins wUX3_nestBegins rmX3_nestBegins h [.ref (G.2.2 8)] Q := by
  refine k_start (cc := cX3_nestBegins) (maxL := 1) (rt := (some .int)) (own := RX3) (by decide +kernel) rfl rfl (Nat.le_of_ble_eq_true rfl) ?_
  intro p e s m below meth c ls C hK hW hl
  exact k_X3_nestBegins_0 C hK hW hl hq
theorem k_X3_unit_19 {Q : Int32 → hp → Prop} {x1 : Int32} {x2 : Int32} {h : hp} {s0 : Int32} (C : kC p s m args meth c cX3_unit 4 (some .int) RX3 wUX3_unit) (hK : kK G s) {H : Heap} {locs : List Loc} {ls : Array Slot} (hW : kW SC G h (aS SC G) s H locs) (hl : lv_has ls 4 [(0, .ref (G.2.2 8)), (1, .int x1), (2, .int x2)]) (hq : w_X3_unit_19 Q x1 x2 h s0) : W p l e rmX3_unit s m args below meth c H locs 0 0 (MQ below (va_Qi Q (kB SC G) (aS SC G)) args s 0 0 (aS SC G)) (F0 m 19 ls [.int s0]) := by
  have hx := C.1
  have hb := C.2.1
  unfold w_X3_unit_19 at hq
  refine lv_istore_n (lv' := [(3, .int s0), (0, .ref (G.2.2 8)), (1, .int x1), (2, .int x2)]) hx hb dX3_unit_19 rfl hl (by decide) rfl (fun ls hl => ?_)
  refine lv_aload_n hx hb dX3_unit_20 rfl (lv_at hl 1 rfl) ?_
  refine lv_iconst (v := 0) hx hb dX3_unit_21 (by decide) ?_
  refine pt3_3 C hK hW (rfl : shC 8 = 3) (List.mem_cons_of_mem _ mw198) (fun _ h9 => List.mem_cons_of_mem _ (inU_wsX30 _ h9)) isZ_0 dX3_unit_22 (fun h3 H locs eh3 hW => ?_)
  have hq := hq h3 eh3
  refine lv_iload_n hx hb dX3_unit_25 rfl (lv_at hl 0 rfl) ?_
  refine lv_if_eq (tgt := 34) hx hb dX3_unit_26 (by decide) (fun c4 => ?_) (fun c4 => ?_)
  · have hq := hq.1 c4
    refine lv_iload_n hx hb dX3_unit_34 rfl (lv_at hl 2 rfl) ?_
    refine lv_bipush (v := 40) hx hb dX3_unit_35 (by decide) ?_
    refine lv_icmp_ne (tgt := 45) hx hb dX3_unit_37 (by decide) (fun c5 => ?_) (fun c5 => ?_)
    · have hq := hq.1 c5
      refine lv_aload_n hx hb dX3_unit_45 rfl (lv_at hl 1 rfl) ?_
      refine lv_iconst (v := 0) hx hb dX3_unit_46 (by decide) ?_
      refine pt3_2 C hK hW (rfl : shC 8 = 3) (List.mem_cons_of_mem _ mw197) (fun _ h9 => List.mem_cons_of_mem _ (inU_wsX30 _ h9)) isZ_0 dX3_unit_47 (fun h6 H locs eh6 hW => ?_)
      have hq := hq h6 eh6
      refine lv_iload_n hx hb dX3_unit_50 rfl (lv_at hl 2 rfl) ?_
      refine lv_iconst (v := 3) hx hb dX3_unit_51 (by decide) ?_
      refine lv_icmp_ne (tgt := 67) hx hb dX3_unit_52 (by decide) (fun c7 => ?_) (fun c7 => ?_)
      · have hq := hq.1 c7
        refine lv_iload_n hx hb dX3_unit_67 rfl (lv_at hl 2 rfl) ?_
        refine lv_sipush (v := 267) hx hb dX3_unit_68 (by decide) ?_
        refine lv_icmp_lt (tgt := 97) hx hb dX3_unit_71 (by decide) (fun c8 => ?_) (fun c8 => ?_)
        · have hq := hq.1 c8
          refine lv_iconst (v := 1) hx hb dX3_unit_97 (by decide) ?_
          exact k_iret rfl C hW dX3_unit_98 hq
        · have hq := hq.2 c8
          refine lv_iload_n hx hb dX3_unit_74 rfl (lv_at hl 2 rfl) ?_
          refine lv_sipush (v := 272) hx hb dX3_unit_75 (by decide) ?_
          refine lv_icmp_gt (tgt := 97) hx hb dX3_unit_78 (by decide) (fun c9 => ?_) (fun c9 => ?_)
          · have hq := hq.1 c9
            refine lv_iconst (v := 1) hx hb dX3_unit_97 (by decide) ?_
            exact k_iret rfl C hW dX3_unit_98 hq
          · have hq := hq.2 c9
            refine lv_aload_n hx hb dX3_unit_81 rfl (lv_at hl 1 rfl) ?_
            refine gt3_0 C hK hW (rfl : shC 8 = 3) (List.mem_cons_of_mem _ mw195) (fun _ h9 => List.mem_cons_of_mem _ (inU_wsX30 _ h9)) dX3_unit_82 ?_
            refine lv_iconst (v := 2) hx hb dX3_unit_85 (by decide) ?_
            refine lv_iload_n hx hb dX3_unit_86 rfl (lv_at hl 2 rfl) ?_
            refine lv_sipush (v := 267) hx hb dX3_unit_87 (by decide) ?_
            refine lv_isub hx hb dX3_unit_90 ?_
            refine k_ci hW (va_runV (As := [.int 2, .int (x1 - 267)]) (rest := []) (k_fix C) (c_X2_add l G (rfl : shC 9 = 2) h6 2 (x1 - 267) _ hq) (cwV 2 C.2.2.2.2.2.1 (gU_V mw475 mw115 mw116 mw69 mw117) rfl rfl rfl (by decide +kernel) ⟨Nat.le_of_ble_eq_true rfl, Nat.le_of_ble_eq_true rfl⟩) (k_preV hK hW (shC_lt (rfl : shC 9 = 2) (by decide)) (ceC_2 (rfl : shC 9 = 2)) (q := (RX2, TX2, 5)) rfl) rfl rfl hl.1 rfl (lv_room (Nat.le_of_ble_eq_true rfl)) dX3_unit_91 ⟨Nat.le_refl 0, Nat.le_refl 0⟩) (fun r11 h10 H locs hq hW => ?_)
            refine lv_pop hx hb dX3_unit_94 rfl ?_
            refine lv_iconst (v := 0) hx hb dX3_unit_95 (by decide) ?_
            exact k_iret rfl C hW dX3_unit_96 hq
      · have hq := hq.2 c7
        refine lv_aload_n hx hb dX3_unit_55 rfl (lv_at hl 1 rfl) ?_
        refine gt3_0 C hK hW (rfl : shC 8 = 3) (List.mem_cons_of_mem _ mw195) (fun _ h9 => List.mem_cons_of_mem _ (inU_wsX30 _ h9)) dX3_unit_56 ?_
        refine lv_iconst (v := 1) hx hb dX3_unit_59 (by decide) ?_
        refine lv_iload_n hx hb dX3_unit_60 rfl (lv_at hl 3 rfl) ?_
        refine k_ci hW (va_runV (As := [.int 1, .int x2]) (rest := []) (k_fix C) (c_X2_add l G (rfl : shC 9 = 2) h6 1 x2 _ hq) (cwV 2 C.2.2.2.2.2.1 (gU_V mw475 mw115 mw116 mw69 mw117) rfl rfl rfl (by decide +kernel) ⟨Nat.le_of_ble_eq_true rfl, Nat.le_of_ble_eq_true rfl⟩) (k_preV hK hW (shC_lt (rfl : shC 9 = 2) (by decide)) (ceC_2 (rfl : shC 9 = 2)) (q := (RX2, TX2, 5)) rfl) rfl rfl hl.1 rfl (lv_room (Nat.le_of_ble_eq_true rfl)) dX3_unit_61 ⟨Nat.le_refl 0, Nat.le_refl 0⟩) (fun r13 h12 H locs hq hW => ?_)
        refine lv_pop hx hb dX3_unit_64 rfl ?_
        refine lv_iconst (v := 0) hx hb dX3_unit_65 (by decide) ?_
        exact k_iret rfl C hW dX3_unit_66 hq
    · have hq := hq.2 c5
      refine lv_aload_n hx hb dX3_unit_40 rfl (lv_at hl 1 rfl) ?_
      refine k_ci hW (va_runV (As := []) (rest := []) (k_fix C) (c_X3_nestBegins l G h3 _ hq) (cwV 0 C.2.2.2.2.2.1 (gU_V mw467 mw468 mw469 mw55 mw470) rfl rfl rfl (by decide +kernel) ⟨Nat.le_of_ble_eq_true rfl, Nat.le_of_ble_eq_true rfl⟩) (k_preV hK hW (shC_lt (rfl : shC 8 = 3) (by decide)) (ceC_3 (rfl : shC 8 = 3)) (q := (RX3, TX3, 10)) rfl) rfl rfl hl.1 rfl (lv_room (Nat.le_of_ble_eq_true rfl)) dX3_unit_41 ⟨Nat.le_refl 0, Nat.le_refl 0⟩) (fun r15 h14 H locs hq hW => ?_)
      exact k_iret rfl C hW dX3_unit_44 hq
  · have hq := hq.2 c4
    refine lv_aload_n hx hb dX3_unit_29 rfl (lv_at hl 1 rfl) ?_
    refine k_ci hW (va_runV (As := []) (rest := []) (k_fix C) (c_X3_branchBegins l G h3 _ hq) (cwV 0 C.2.2.2.2.2.1 (gU_V mw463 mw464 mw465 mw55 mw466) rfl rfl rfl (by decide +kernel) ⟨Nat.le_of_ble_eq_true rfl, Nat.le_of_ble_eq_true rfl⟩) (k_preV hK hW (shC_lt (rfl : shC 8 = 3) (by decide)) (ceC_3 (rfl : shC 8 = 3)) (q := (RX3, TX3, 10)) rfl) rfl rfl hl.1 rfl (lv_room (Nat.le_of_ble_eq_true rfl)) dX3_unit_30 ⟨Nat.le_refl 0, Nat.le_refl 0⟩) (fun r17 h16 H locs hq hW => ?_)
    exact k_iret rfl C hW dX3_unit_33 hq
theorem k_X3_unit_0 {Q : Int32 → hp → Prop} {x1 : Int32} {x2 : Int32} {h : hp} (C : kC p s m args meth c cX3_unit 4 (some .int) RX3 wUX3_unit) (hK : kK G s) {H : Heap} {locs : List Loc} {ls : Array Slot} (hW : kW SC G h (aS SC G) s H locs) (hl : lv_has ls 4 [(0, .ref (G.2.2 8)), (1, .int x1), (2, .int x2)]) (hq : w_X3_unit_0 Q x1 x2 h) : W p l e rmX3_unit s m args below meth c H locs 0 0 (MQ below (va_Qi Q (kB SC G) (aS SC G)) args s 0 0 (aS SC G)) (F0 m 0 ls []) := by
  have hx := C.1
  have hb := C.2.1
  unfold w_X3_unit_0 at hq
  refine lv_iload_n hx hb dX3_unit_0 rfl (lv_at hl 1 rfl) ?_
  refine lv_sipush (v := 264) hx hb dX3_unit_1 (by decide) ?_
  refine lv_icmp_ne (tgt := 18) hx hb dX3_unit_4 (by decide) (fun c1 => ?_) (fun c1 => ?_)
  · have hq := hq.1 c1
    refine lv_iconst (v := 0) hx hb dX3_unit_18 (by decide) ?_
    exact k_X3_unit_19 C hK hW (lv_sub hl [0, 1, 2] rfl) hq
  · have hq := hq.2 c1
    refine lv_aload_n hx hb dX3_unit_7 rfl (lv_at hl 0 rfl) ?_
    refine gt3_3 C hK hW (rfl : shC 8 = 3) (List.mem_cons_of_mem _ mw198) (fun _ h9 => List.mem_cons_of_mem _ (inU_wsX30 _ h9)) dX3_unit_8 ?_
    refine lv_if_eq (tgt := 18) hx hb dX3_unit_11 (by decide) (fun c2 => ?_) (fun c2 => ?_)
    · have hq := hq.1 c2
      refine lv_iconst (v := 0) hx hb dX3_unit_18 (by decide) ?_
      exact k_X3_unit_19 C hK hW (lv_sub hl [0, 1, 2] rfl) hq
    · have hq := hq.2 c2
      refine lv_iconst (v := 1) hx hb dX3_unit_14 (by decide) ?_
      refine lv_goto (tgt := 19) hx hb dX3_unit_15 (by decide) ?_
      exact k_X3_unit_19 C hK hW (lv_sub hl [0, 1, 2] rfl) hq
theorem c_X3_unit (l : Launch) (G : wG) (h : hp) (x1 : Int32) (x2 : Int32) (Q : Int32 → hp → Prop) (hq : w_X3_unit h x1 x2 Q) : ctI l SC G yX3_unit wUX3_unit rmX3_unit h [.ref (G.2.2 8), .int x1, .int x2] Q := by
  refine k_start (cc := cX3_unit) (maxL := 4) (rt := (some .int)) (own := RX3) (by decide +kernel) rfl rfl (Nat.le_of_ble_eq_true rfl) ?_
  intro p e s m below meth c ls C hK hW hl
  exact k_X3_unit_0 C hK hW hl hq
theorem k_X3_rankOf_0 {Q : Int32 → Prop} {x0 : Int32} {h : hp} (C : kC p s m args meth c cX3_rankOf 1 (some .int) RX3 wUX3_rankOf) (hK : kK G s) {H : Heap} {locs : List Loc} {ls : Array Slot} (hW : kW SC G h (aS SC G) s H locs) (hl : lv_has ls 1 [(0, .int x0)]) (hq : w_X3_rankOf_0 Q x0) : W p l e rmX3_rankOf s m args below meth c H locs 0 0 (MQ below (va_Qi (fun r9 h9 => h9 = h ∧ Q r9) (kB SC G) (aS SC G)) args s 0 0 (aS SC G)) (F0 m 0 ls []) := by
  have hx := C.1
  have hb := C.2.1
  unfold w_X3_rankOf_0 at hq
  refine lv_iload_n hx hb dX3_rankOf_0 rfl (lv_at hl 0 rfl) ?_
  refine lv_bipush (v := 42) hx hb dX3_rankOf_1 (by decide) ?_
  refine lv_icmp_eq (tgt := 12) hx hb dX3_rankOf_3 (by decide) (fun c1 => ?_) (fun c1 => ?_)
  · have hq := hq.1 c1
    refine lv_iconst (v := 2) hx hb dX3_rankOf_12 (by decide) ?_
    exact k_iret rfl C hW dX3_rankOf_13 ⟨rfl, hq⟩
  · have hq := hq.2 c1
    refine lv_iload_n hx hb dX3_rankOf_6 rfl (lv_at hl 0 rfl) ?_
    refine lv_bipush (v := 47) hx hb dX3_rankOf_7 (by decide) ?_
    refine lv_icmp_ne (tgt := 14) hx hb dX3_rankOf_9 (by decide) (fun c2 => ?_) (fun c2 => ?_)
    · have hq := hq.1 c2
      refine lv_iload_n hx hb dX3_rankOf_14 rfl (lv_at hl 0 rfl) ?_
      refine lv_bipush (v := 43) hx hb dX3_rankOf_15 (by decide) ?_
      refine lv_icmp_eq (tgt := 26) hx hb dX3_rankOf_17 (by decide) (fun c3 => ?_) (fun c3 => ?_)
      · have hq := hq.1 c3
        refine lv_iconst (v := 1) hx hb dX3_rankOf_26 (by decide) ?_
        refine lv_goto (tgt := 31) hx hb dX3_rankOf_27 (by decide) ?_
        exact k_iret rfl C hW dX3_rankOf_31 ⟨rfl, hq⟩
      · have hq := hq.2 c3
        refine lv_iload_n hx hb dX3_rankOf_20 rfl (lv_at hl 0 rfl) ?_
        refine lv_bipush (v := 45) hx hb dX3_rankOf_21 (by decide) ?_
        refine lv_icmp_ne (tgt := 30) hx hb dX3_rankOf_23 (by decide) (fun c4 => ?_) (fun c4 => ?_)
        · have hq := hq.1 c4
          refine lv_iconst (v := 0) hx hb dX3_rankOf_30 (by decide) ?_
          exact k_iret rfl C hW dX3_rankOf_31 ⟨rfl, hq⟩
        · have hq := hq.2 c4
          refine lv_iconst (v := 1) hx hb dX3_rankOf_26 (by decide) ?_
          refine lv_goto (tgt := 31) hx hb dX3_rankOf_27 (by decide) ?_
          exact k_iret rfl C hW dX3_rankOf_31 ⟨rfl, hq⟩
    · have hq := hq.2 c2
      refine lv_iconst (v := 2) hx hb dX3_rankOf_12 (by decide) ?_
      exact k_iret rfl C hW dX3_rankOf_13 ⟨rfl, hq⟩
theorem c_X3_rankOf (l : Launch) (G : wG) (h : hp) (x0 : Int32) (Q : Int32 → Prop) (hq : w_X3_rankOf x0 Q) : ctI l SC G yX3_rankOf wUX3_rankOf rmX3_rankOf h [.int x0] (fun r9 h9 => h9 = h ∧ Q r9) := by
  refine k_start (cc := cX3_rankOf) (maxL := 1) (rt := (some .int)) (own := RX3) (by decide +kernel) rfl rfl (Nat.le_of_ble_eq_true rfl) ?_
  intro p e s m below meth c ls C hK hW hl
  exact k_X3_rankOf_0 C hK hW hl hq
theorem k_X3_writeWaiting_b0 {Q : hp → Prop} {X0 : hp → Prop} {x1 : Int32} (C : kC p s m args meth c cX3_writeWaiting 2 none RX3 wUX3_writeWaiting) (hK : kK G s) (hX0 : ∀ (h : hp) (H : Heap) (locs : List Loc) (ls : Array Slot), kW SC G h (aS SC G) s H locs → lv_has ls 2 [(0, .ref (G.2.2 8)), (1, .int x1)] → X0 h → W p l e rmX3_writeWaiting s m args below meth c H locs 0 0 (MQ below (va_Qv Q (kB SC G) (aS SC G)) args s 0 0 (aS SC G)) (F0 m 0 ls [])) {h : hp} {H : Heap} {locs : List Loc} {ls : Array Slot} (hW : kW SC G h (aS SC G) s H locs) (hl : lv_has ls 2 [(0, .ref (G.2.2 8)), (1, .int x1)]) (hq : w_X3_writeWaiting_b0 Q x1 X0 h) : W p l e rmX3_writeWaiting s m args below meth c H locs 0 0 (MQ below (va_Qv Q (kB SC G) (aS SC G)) args s 0 0 (aS SC G)) (F0 m 0 ls []) := by
  have hx := C.1
  have hb := C.2.1
  unfold w_X3_writeWaiting_b0 at hq
  refine lv_aload_n hx hb dX3_writeWaiting_0 rfl (lv_at hl 0 rfl) ?_
  refine gt3_9 C hK hW (rfl : shC 8 = 3) (List.mem_cons_of_mem _ mw204) (fun _ h9 => List.mem_cons_of_mem _ (inU_wsX30 _ h9)) dX3_writeWaiting_1 ?_
  refine lv_if_le (tgt := 58) hx hb dX3_writeWaiting_4 (by decide) (fun c1 => ?_) (fun c1 => ?_)
  · have hq := hq.1 c1
    exact k_vret rfl C hW dX3_writeWaiting_58 hq
  · have hq := hq.2 c1
    refine lv_aload_n hx hb dX3_writeWaiting_7 rfl (lv_at hl 0 rfl) ?_
    refine gt3_8 C hK hW (rfl : shC 8 = 3) (List.mem_cons_of_mem _ mw203) (fun _ h9 => List.mem_cons_of_mem _ (inU_wsX30 _ h9)) dX3_writeWaiting_8 ?_
    refine lv_aload_n hx hb dX3_writeWaiting_11 rfl (lv_at hl 0 rfl) ?_
    refine gt3_9 C hK hW (rfl : shC 8 = 3) (List.mem_cons_of_mem _ mw204) (fun _ h9 => List.mem_cons_of_mem _ (inU_wsX30 _ h9)) dX3_writeWaiting_12 ?_
    refine lv_iconst (v := 1) hx hb dX3_writeWaiting_15 (by decide) ?_
    refine lv_isub hx hb dX3_writeWaiting_16 ?_
    refine k_iald C hK hW (shC_lt (rfl : shC 14 = 14) (by decide)) (ceC_14 (rfl : shC 14 = 14) (rfl : lnC 14 = 21)) hq.1 dX3_writeWaiting_17 ?_
    have hq := hq.2
    refine k_ci hW (va_runS (As := [.int (gI h 14 (ix ((gI h 8 9) - 1)))]) (rest := []) (k_fix C) (c_X3_rankOf l G h (gI h 14 (ix ((gI h 8 9) - 1))) _ hq) (va_cwS 1 C.2.2.2.2.2.1 (gU_S mw480 mw481 mw55 mw482) rfl rfl rfl (by decide +kernel) ⟨Nat.le_of_ble_eq_true rfl, Nat.le_of_ble_eq_true rfl⟩) (k_preS hK hW) rfl rfl hl.1 rfl (lv_room (Nat.le_of_ble_eq_true rfl)) dX3_writeWaiting_18 ⟨Nat.le_refl 0, Nat.le_refl 0⟩) (fun r2 h3 H locs hq hW => ?_)
    rw [hq.1] at hW
    have hq := hq.2
    refine lv_iload_n hx hb dX3_writeWaiting_21 rfl (lv_at hl 1 rfl) ?_
    refine lv_icmp_lt (tgt := 58) hx hb dX3_writeWaiting_22 (by decide) (fun c4 => ?_) (fun c4 => ?_)
    · have hq := hq.1 c4
      exact k_vret rfl C hW dX3_writeWaiting_58 hq
    · have hq := hq.2 c4
      refine lv_aload_n hx hb dX3_writeWaiting_25 rfl (lv_at hl 0 rfl) ?_
      refine gt3_0 C hK hW (rfl : shC 8 = 3) (List.mem_cons_of_mem _ mw195) (fun _ h9 => List.mem_cons_of_mem _ (inU_wsX30 _ h9)) dX3_writeWaiting_26 ?_
      refine lv_aload_n hx hb dX3_writeWaiting_29 rfl (lv_at hl 0 rfl) ?_
      refine gt3_8 C hK hW (rfl : shC 8 = 3) (List.mem_cons_of_mem _ mw203) (fun _ h9 => List.mem_cons_of_mem _ (inU_wsX30 _ h9)) dX3_writeWaiting_30 ?_
      refine lv_aload_n hx hb dX3_writeWaiting_33 rfl (lv_at hl 0 rfl) ?_
      refine gt3_9 C hK hW (rfl : shC 8 = 3) (List.mem_cons_of_mem _ mw204) (fun _ h9 => List.mem_cons_of_mem _ (inU_wsX30 _ h9)) dX3_writeWaiting_34 ?_
      refine lv_iconst (v := 1) hx hb dX3_writeWaiting_37 (by decide) ?_
      refine lv_isub hx hb dX3_writeWaiting_38 ?_
      refine k_iald C hK hW (shC_lt (rfl : shC 14 = 14) (by decide)) (ceC_14 (rfl : shC 14 = 14) (rfl : lnC 14 = 21)) hq.1 dX3_writeWaiting_39 ?_
      have hq := hq.2
      refine lv_iconst (v := 0) hx hb dX3_writeWaiting_40 (by decide) ?_
      refine k_ci hW (va_runV (As := [.int (gI h 14 (ix ((gI h 8 9) - 1))), .int 0]) (rest := []) (k_fix C) (c_X2_add l G (rfl : shC 9 = 2) h (gI h 14 (ix ((gI h 8 9) - 1))) 0 _ hq) (cwV 2 C.2.2.2.2.2.1 (gU_V mw475 mw115 mw116 mw69 mw117) rfl rfl rfl (by decide +kernel) ⟨Nat.le_of_ble_eq_true rfl, Nat.le_of_ble_eq_true rfl⟩) (k_preV hK hW (shC_lt (rfl : shC 9 = 2) (by decide)) (ceC_2 (rfl : shC 9 = 2)) (q := (RX2, TX2, 5)) rfl) rfl rfl hl.1 rfl (lv_room (Nat.le_of_ble_eq_true rfl)) dX3_writeWaiting_41 ⟨Nat.le_refl 0, Nat.le_refl 0⟩) (fun r6 h5 H locs hq hW => ?_)
      refine lv_pop hx hb dX3_writeWaiting_44 rfl ?_
      refine lv_aload_n hx hb dX3_writeWaiting_45 rfl (lv_at hl 0 rfl) ?_
      refine lv_dup hx hb dX3_writeWaiting_46 rfl ?_
      refine gt3_9 C hK hW (rfl : shC 8 = 3) (List.mem_cons_of_mem _ mw204) (fun _ h9 => List.mem_cons_of_mem _ (inU_wsX30 _ h9)) dX3_writeWaiting_47 ?_
      refine lv_iconst (v := 1) hx hb dX3_writeWaiting_50 (by decide) ?_
      refine lv_isub hx hb dX3_writeWaiting_51 ?_
      refine pt3_9 C hK hW (rfl : shC 8 = 3) (List.mem_cons_of_mem _ mw204) (fun _ h9 => List.mem_cons_of_mem _ (inU_wsX30 _ h9)) dX3_writeWaiting_52 (fun h7 H locs eh7 hW => ?_)
      have hq := hq h7 eh7
      refine lv_goto (tgt := 0) hx hb dX3_writeWaiting_55 (by decide) ?_
      exact hX0 _ _ _ _ hW (lv_sub hl [0, 1] rfl) hq
theorem k_X3_writeWaiting_0 {Q : hp → Prop} {x1 : Int32} (C : kC p s m args meth c cX3_writeWaiting 2 none RX3 wUX3_writeWaiting) (hK : kK G s) {h : hp} {H : Heap} {locs : List Loc} {ls : Array Slot} (hW : kW SC G h (aS SC G) s H locs) (hl : lv_has ls 2 [(0, .ref (G.2.2 8)), (1, .int x1)]) (hq : w_X3_writeWaiting_0 Q x1 h) : W p l e rmX3_writeWaiting s m args below meth c H locs 0 0 (MQ below (va_Qv Q (kB SC G) (aS SC G)) args s 0 0 (aS SC G)) (F0 m 0 ls []) := by
  have key := hq (fun (q : hp) => ∀ (H : Heap) (locs : List Loc) (ls : Array Slot), kW SC G q (aS SC G) s H locs → lv_has ls 2 [(0, .ref (G.2.2 8)), (1, .int x1)] → W p l e rmX3_writeWaiting s m args below meth c H locs 0 0 (MQ below (va_Qv Q (kB SC G) (aS SC G)) args s 0 0 (aS SC G)) (F0 m 0 ls []))
    (fun q hq H locs ls hW hl => k_X3_writeWaiting_b0 C hK (fun h H locs ls hW hl hI => hI H locs ls hW hl) hW hl hq)
  exact key _ _ _ hW hl
theorem c_X3_writeWaiting (l : Launch) (G : wG) (h : hp) (x1 : Int32) (Q : hp → Prop) (hq : w_X3_writeWaiting h x1 Q) : ctV l SC G yX3_writeWaiting wUX3_writeWaiting rmX3_writeWaiting h [.ref (G.2.2 8), .int x1] Q := by
  refine k_start (cc := cX3_writeWaiting) (maxL := 2) (rt := none) (own := RX3) (by decide +kernel) rfl rfl (Nat.le_of_ble_eq_true rfl) ?_
  intro p e s m below meth c ls C hK hW hl
  exact k_X3_writeWaiting_0 C hK hW hl hq
theorem k_X3_nestEnds_0 {Q : hp → Prop} {h : hp} (C : kC p s m args meth c cX3_nestEnds 1 none RX3 wUX3_nestEnds) (hK : kK G s) {H : Heap} {locs : List Loc} {ls : Array Slot} (hW : kW SC G h (aS SC G) s H locs) (hl : lv_has ls 1 [(0, .ref (G.2.2 8))]) (hq : w_X3_nestEnds_0 Q h) : W p l e rmX3_nestEnds s m args below meth c H locs 0 0 (MQ below (va_Qv Q (kB SC G) (aS SC G)) args s 0 0 (aS SC G)) (F0 m 0 ls []) := by
  have hx := C.1
  have hb := C.2.1
  unfold w_X3_nestEnds_0 at hq
  refine lv_aload_n hx hb dX3_nestEnds_0 rfl (lv_at hl 0 rfl) ?_
  refine lv_dup hx hb dX3_nestEnds_1 rfl ?_
  refine gt3_6 C hK hW (rfl : shC 8 = 3) (List.mem_cons_of_mem _ mw201) (fun _ h9 => List.mem_cons_of_mem _ (inU_wsX30 _ h9)) dX3_nestEnds_2 ?_
  refine lv_iconst (v := 1) hx hb dX3_nestEnds_5 (by decide) ?_
  refine lv_isub hx hb dX3_nestEnds_6 ?_
  refine pt3_6 C hK hW (rfl : shC 8 = 3) (List.mem_cons_of_mem _ mw201) (fun _ h9 => List.mem_cons_of_mem _ (inU_wsX30 _ h9)) dX3_nestEnds_7 (fun h1 H locs eh1 hW => ?_)
  have hq := hq h1 eh1
  refine lv_aload_n hx hb dX3_nestEnds_10 rfl (lv_at hl 0 rfl) ?_
  refine gt3_9 C hK hW (rfl : shC 8 = 3) (List.mem_cons_of_mem _ mw204) (fun _ h9 => List.mem_cons_of_mem _ (inU_wsX30 _ h9)) dX3_nestEnds_11 ?_
  refine lv_if_le (tgt := 27) hx hb dX3_nestEnds_14 (by decide) (fun c2 => ?_) (fun c2 => ?_)
  · have hq := hq.1 c2
    exact k_vret rfl C hW dX3_nestEnds_27 hq
  · have hq := hq.2 c2
    refine lv_aload_n hx hb dX3_nestEnds_17 rfl (lv_at hl 0 rfl) ?_
    refine lv_dup hx hb dX3_nestEnds_18 rfl ?_
    refine gt3_9 C hK hW (rfl : shC 8 = 3) (List.mem_cons_of_mem _ mw204) (fun _ h9 => List.mem_cons_of_mem _ (inU_wsX30 _ h9)) dX3_nestEnds_19 ?_
    refine lv_iconst (v := 1) hx hb dX3_nestEnds_22 (by decide) ?_
    refine lv_isub hx hb dX3_nestEnds_23 ?_
    refine pt3_9 C hK hW (rfl : shC 8 = 3) (List.mem_cons_of_mem _ mw204) (fun _ h9 => List.mem_cons_of_mem _ (inU_wsX30 _ h9)) dX3_nestEnds_24 (fun h3 H locs eh3 hW => ?_)
    have hq := hq h3 eh3
    exact k_vret rfl C hW dX3_nestEnds_27 hq
theorem c_X3_nestEnds (l : Launch) (G : wG) (h : hp) (Q : hp → Prop) (hq : w_X3_nestEnds h Q) : ctV l SC G yX3_nestEnds wUX3_nestEnds rmX3_nestEnds h [.ref (G.2.2 8)] Q := by
  refine k_start (cc := cX3_nestEnds) (maxL := 1) (rt := none) (own := RX3) (by decide +kernel) rfl rfl (Nat.le_of_ble_eq_true rfl) ?_
  intro p e s m below meth c ls C hK hW hl
  exact k_X3_nestEnds_0 C hK hW hl hq
theorem k_X3_partEnds_0 {Q : hp → Prop} {h : hp} (C : kC p s m args meth c cX3_partEnds 1 none RX3 wUX3_partEnds) (hK : kK G s) {H : Heap} {locs : List Loc} {ls : Array Slot} (hW : kW SC G h (aS SC G) s H locs) (hl : lv_has ls 1 [(0, .ref (G.2.2 8))]) (hq : w_X3_partEnds_0 Q h) : W p l e rmX3_partEnds s m args below meth c H locs 0 0 (MQ below (va_Qv Q (kB SC G) (aS SC G)) args s 0 0 (aS SC G)) (F0 m 0 ls []) := by
  have hx := C.1
  have hb := C.2.1
  unfold w_X3_partEnds_0 at hq
  refine lv_aload_n hx hb dX3_partEnds_0 rfl (lv_at hl 0 rfl) ?_
  refine lv_iconst (v := 1) hx hb dX3_partEnds_1 (by decide) ?_
  refine pt3_2 C hK hW (rfl : shC 8 = 3) (List.mem_cons_of_mem _ mw197) (fun _ h9 => List.mem_cons_of_mem _ (inU_wsX30 _ h9)) isZ_1 dX3_partEnds_2 (fun h1 H locs eh1 hW => ?_)
  have hq := hq h1 eh1
  refine lv_aload_n hx hb dX3_partEnds_5 rfl (lv_at hl 0 rfl) ?_
  refine gt3_4 C hK hW (rfl : shC 8 = 3) (List.mem_cons_of_mem _ mw199) (fun _ h9 => List.mem_cons_of_mem _ (inU_wsX30 _ h9)) dX3_partEnds_6 ?_
  refine lv_topi (fun sw2 esw2 => ?_)
  have hq := hq sw2 esw2
  by_cases c3 : sw2 = 60
  · have hq := hq.1 c3
    refine k_top c3 ?_
    refine lv_lookup (tgt := 44) (off := 35) hx hb dX3_partEnds_9 (by decide) (by decide) (by decide) ?_
    refine lv_aload_n hx hb dX3_partEnds_44 rfl (lv_at hl 0 rfl) ?_
    refine lv_sipush (v := 265) hx hb dX3_partEnds_45 (by decide) ?_
    refine pt3_4 C hK hW (rfl : shC 8 = 3) (List.mem_cons_of_mem _ mw199) (fun _ h9 => List.mem_cons_of_mem _ (inU_wsX30 _ h9)) dX3_partEnds_48 (fun h4 H locs eh4 hW => ?_)
    have hq := hq h4 eh4
    refine lv_goto (tgt := 127) hx hb dX3_partEnds_51 (by decide) ?_
    exact k_vret rfl C hW dX3_partEnds_127 hq
  have hq := hq.2
  by_cases c5 : sw2 = 265
  · have hq := hq.1 c5
    refine k_top c5 ?_
    refine lv_lookup (tgt := 54) (off := 45) hx hb dX3_partEnds_9 (by decide) (by decide) (by decide) ?_
    refine lv_aload_n hx hb dX3_partEnds_54 rfl (lv_at hl 0 rfl) ?_
    refine lv_aload_n hx hb dX3_partEnds_55 rfl (lv_at hl 0 rfl) ?_
    refine gt3_0 C hK hW (rfl : shC 8 = 3) (List.mem_cons_of_mem _ mw195) (fun _ h9 => List.mem_cons_of_mem _ (inU_wsX30 _ h9)) dX3_partEnds_56 ?_
    refine lv_iconst (v := 3) hx hb dX3_partEnds_59 (by decide) ?_
    refine lv_iconst (v := 0) hx hb dX3_partEnds_60 (by decide) ?_
    refine k_ci hW (va_runV (As := [.int 3, .int 0]) (rest := [.ref (G.2.2 8)]) (k_fix C) (c_X2_add l G (rfl : shC 9 = 2) h1 3 0 _ hq) (cwV 2 C.2.2.2.2.2.1 (gU_V mw475 mw115 mw116 mw69 mw117) rfl rfl rfl (by decide +kernel) ⟨Nat.le_of_ble_eq_true rfl, Nat.le_of_ble_eq_true rfl⟩) (k_preV hK hW (shC_lt (rfl : shC 9 = 2) (by decide)) (ceC_2 (rfl : shC 9 = 2)) (q := (RX2, TX2, 5)) rfl) rfl rfl hl.1 rfl (lv_room (Nat.le_of_ble_eq_true rfl)) dX3_partEnds_61 ⟨Nat.le_refl 0, Nat.le_refl 0⟩) (fun r7 h6 H locs hq hW => ?_)
    refine pt3_7 C hK hW (rfl : shC 8 = 3) (List.mem_cons_of_mem _ mw202) (fun _ h9 => List.mem_cons_of_mem _ (inU_wsX30 _ h9)) dX3_partEnds_64 (fun h8 H locs eh8 hW => ?_)
    have hq := hq h8 eh8
    refine lv_aload_n hx hb dX3_partEnds_67 rfl (lv_at hl 0 rfl) ?_
    refine lv_sipush (v := 266) hx hb dX3_partEnds_68 (by decide) ?_
    refine pt3_4 C hK hW (rfl : shC 8 = 3) (List.mem_cons_of_mem _ mw199) (fun _ h9 => List.mem_cons_of_mem _ (inU_wsX30 _ h9)) dX3_partEnds_71 (fun h9 H locs eh9 hW => ?_)
    have hq := hq h9 eh9
    refine lv_goto (tgt := 127) hx hb dX3_partEnds_74 (by decide) ?_
    exact k_vret rfl C hW dX3_partEnds_127 hq
  have hq := hq.2
  by_cases c10 : sw2 = 266
  · have hq := hq.1 c10
    refine k_top c10 ?_
    refine lv_lookup (tgt := 77) (off := 68) hx hb dX3_partEnds_9 (by decide) (by decide) (by decide) ?_
    refine lv_aload_n hx hb dX3_partEnds_77 rfl (lv_at hl 0 rfl) ?_
    refine gt3_0 C hK hW (rfl : shC 8 = 3) (List.mem_cons_of_mem _ mw195) (fun _ h9 => List.mem_cons_of_mem _ (inU_wsX30 _ h9)) dX3_partEnds_78 ?_
    refine lv_iconst (v := 4) hx hb dX3_partEnds_81 (by decide) ?_
    refine lv_iconst (v := 0) hx hb dX3_partEnds_82 (by decide) ?_
    refine k_ci hW (va_runV (As := [.int 4, .int 0]) (rest := []) (k_fix C) (c_X2_add l G (rfl : shC 9 = 2) h1 4 0 _ hq) (cwV 2 C.2.2.2.2.2.1 (gU_V mw475 mw115 mw116 mw69 mw117) rfl rfl rfl (by decide +kernel) ⟨Nat.le_of_ble_eq_true rfl, Nat.le_of_ble_eq_true rfl⟩) (k_preV hK hW (shC_lt (rfl : shC 9 = 2) (by decide)) (ceC_2 (rfl : shC 9 = 2)) (q := (RX2, TX2, 5)) rfl) rfl rfl hl.1 rfl (lv_room (Nat.le_of_ble_eq_true rfl)) dX3_partEnds_83 ⟨Nat.le_refl 0, Nat.le_refl 0⟩) (fun r12 h11 H locs hq hW => ?_)
    refine lv_pop hx hb dX3_partEnds_86 rfl ?_
    refine lv_aload_n hx hb dX3_partEnds_87 rfl (lv_at hl 0 rfl) ?_
    refine gt3_0 C hK hW (rfl : shC 8 = 3) (List.mem_cons_of_mem _ mw195) (fun _ h9 => List.mem_cons_of_mem _ (inU_wsX30 _ h9)) dX3_partEnds_88 ?_
    refine lv_aload_n hx hb dX3_partEnds_91 rfl (lv_at hl 0 rfl) ?_
    refine gt3_7 C hK hW (rfl : shC 8 = 3) (List.mem_cons_of_mem _ mw202) (fun _ h9 => List.mem_cons_of_mem _ (inU_wsX30 _ h9)) dX3_partEnds_92 ?_
    refine k_cv hW (va_runV (As := [.int (gI h11 8 7)]) (rest := []) (k_fix C) (c_X2_branchHere l G (rfl : shC 9 = 2) h11 (gI h11 8 7) _ hq) (cwV 1 C.2.2.2.2.2.1 (gU_V mw495 mw496 mw497 mw69 mw498) rfl rfl rfl (by decide +kernel) ⟨Nat.le_of_ble_eq_true rfl, Nat.le_of_ble_eq_true rfl⟩) (k_preV hK hW (shC_lt (rfl : shC 9 = 2) (by decide)) (ceC_2 (rfl : shC 9 = 2)) (q := (RX2, TX2, 5)) rfl) rfl rfl hl.1 rfl (lv_room (Nat.le_of_ble_eq_true rfl)) dX3_partEnds_95 ⟨Nat.le_refl 0, Nat.le_refl 0⟩) (fun h13 H locs hq hW => ?_)
    refine lv_aload_n hx hb dX3_partEnds_98 rfl (lv_at hl 0 rfl) ?_
    refine lv_bipush (v := 59) hx hb dX3_partEnds_99 (by decide) ?_
    refine pt3_4 C hK hW (rfl : shC 8 = 3) (List.mem_cons_of_mem _ mw199) (fun _ h9 => List.mem_cons_of_mem _ (inU_wsX30 _ h9)) dX3_partEnds_101 (fun h14 H locs eh14 hW => ?_)
    have hq := hq h14 eh14
    refine lv_aload_n hx hb dX3_partEnds_104 rfl (lv_at hl 0 rfl) ?_
    refine lv_iconst (v := 1) hx hb dX3_partEnds_105 (by decide) ?_
    refine pt3_3 C hK hW (rfl : shC 8 = 3) (List.mem_cons_of_mem _ mw198) (fun _ h9 => List.mem_cons_of_mem _ (inU_wsX30 _ h9)) isZ_1 dX3_partEnds_106 (fun h15 H locs eh15 hW => ?_)
    have hq := hq h15 eh15
    refine lv_goto (tgt := 127) hx hb dX3_partEnds_109 (by decide) ?_
    exact k_vret rfl C hW dX3_partEnds_127 hq
  have hq := hq.2
  have nc3 : ¬ sw2.toInt = 60 := fun z => c3 (by rw [← Int32.ofInt_toInt sw2, z]; rfl)
  have nc5 : ¬ sw2.toInt = 265 := fun z => c5 (by rw [← Int32.ofInt_toInt sw2, z]; rfl)
  have nc10 : ¬ sw2.toInt = 266 := fun z => c10 (by rw [← Int32.ofInt_toInt sw2, z]; rfl)
  refine lv_lookup (tgt := 112) (off := 103) hx hb dX3_partEnds_9 (by decide) (by simp [Op.lookupswitch.offset, List.find?, beq_iff_eq, nc3, Ne.symm nc3, nc5, Ne.symm nc5, nc10, Ne.symm nc10]) (by decide) ?_
  have hq := hq c3 c5 c10
  refine lv_aload_n hx hb dX3_partEnds_112 rfl (lv_at hl 0 rfl) ?_
  refine gt3_0 C hK hW (rfl : shC 8 = 3) (List.mem_cons_of_mem _ mw195) (fun _ h9 => List.mem_cons_of_mem _ (inU_wsX30 _ h9)) dX3_partEnds_113 ?_
  refine lv_iconst (v := 4) hx hb dX3_partEnds_116 (by decide) ?_
  refine lv_iconst (v := 0) hx hb dX3_partEnds_117 (by decide) ?_
  refine k_ci hW (va_runV (As := [.int 4, .int 0]) (rest := []) (k_fix C) (c_X2_add l G (rfl : shC 9 = 2) h1 4 0 _ hq) (cwV 2 C.2.2.2.2.2.1 (gU_V mw475 mw115 mw116 mw69 mw117) rfl rfl rfl (by decide +kernel) ⟨Nat.le_of_ble_eq_true rfl, Nat.le_of_ble_eq_true rfl⟩) (k_preV hK hW (shC_lt (rfl : shC 9 = 2) (by decide)) (ceC_2 (rfl : shC 9 = 2)) (q := (RX2, TX2, 5)) rfl) rfl rfl hl.1 rfl (lv_room (Nat.le_of_ble_eq_true rfl)) dX3_partEnds_118 ⟨Nat.le_refl 0, Nat.le_refl 0⟩) (fun r17 h16 H locs hq hW => ?_)
  refine lv_pop hx hb dX3_partEnds_121 rfl ?_
  refine lv_aload_n hx hb dX3_partEnds_122 rfl (lv_at hl 0 rfl) ?_
  refine lv_iconst (v := 1) hx hb dX3_partEnds_123 (by decide) ?_
  refine pt3_1 C hK hW (rfl : shC 8 = 3) (List.mem_cons_of_mem _ mw196) (fun _ h9 => List.mem_cons_of_mem _ (inU_wsX30 _ h9)) isZ_1 dX3_partEnds_124 (fun h18 H locs eh18 hW => ?_)
  have hq := hq h18 eh18
  exact k_vret rfl C hW dX3_partEnds_127 hq
theorem c_X3_partEnds (l : Launch) (G : wG) (h : hp) (Q : hp → Prop) (hq : w_X3_partEnds h Q) : ctV l SC G yX3_partEnds wUX3_partEnds rmX3_partEnds h [.ref (G.2.2 8)] Q := by
  refine k_start (cc := cX3_partEnds) (maxL := 1) (rt := none) (own := RX3) (by decide +kernel) rfl rfl (Nat.le_of_ble_eq_true rfl) ?_
  intro p e s m below meth c ls C hK hW hl
  exact k_X3_partEnds_0 C hK hW hl hq
end LINKS
