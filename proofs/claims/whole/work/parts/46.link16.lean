section LINKS
variable {p : Program} {l : Launch} {e : Env} {s : State} {m : MethodId} {args : Array Value} {below : List Frame} {meth : Method} {c : Code} {G : wG}
theorem k_X12_tellShare_86 {Q : hp → Prop} {x1 : Int32} {x2 : Int32} {x3 : Int32} {h : hp} (C : kC p s m args meth c cX12_tellShare 5 none RX12 wUX12_tellShare) (hK : kK G s) {H : Heap} {locs : List Loc} {ls : Array Slot} (hW : kW SM G h (aS SM G) s H locs) (hl : lv_has ls 5 [(0, .ref (G.2.2 0)), (1, .int x1), (2, .int x2), (3, .int x3)]) (hq : w_X12_tellShare_86 Q x1 x2 x3 h) : W p l e rmX12_tellShare s m args below meth c H locs 0 0 (MQ below (va_Qv Q (kB SM G) (aS SM G)) args s 0 0 (aS SM G)) (F0 m 86 ls []) := by
  have hx := C.1
  have hb := C.2.1
  unfold w_X12_tellShare_86 at hq
  refine lv_aload_n hx hb dX12_tellShare_86 rfl (lv_at hl 0 rfl) ?_
  refine gt12_27 C hK hW (rfl : shM 0 = 12) (List.mem_cons_of_mem _ mw277) (fun _ h9 => List.mem_cons_of_mem _ (inU_wsX120 _ h9)) dX12_tellShare_87 ?_
  refine lv_iload_n hx hb dX12_tellShare_90 rfl (lv_at hl 1 rfl) ?_
  refine lv_iload_n hx hb dX12_tellShare_91 rfl (lv_at hl 3 rfl) ?_
  refine k_iast okM C hK hW (shM_lt (rfl : shM 14 = 14) (by decide)) (fun g9 => ceM_14 (rfl : shM 14 = 14) (rfl : lnM 14 = 16)) hq.1 dX12_tellShare_92 (fun H locs hW => ?_)
  have hq := hq.2
  obtain ⟨h11, eh11⟩ : ∃ z : hp, z = sI h 14 (ix x1) x3 := ⟨_, rfl⟩
  rw [← eh11] at hW
  have hq := hq h11 eh11
  refine lv_aload_n hx hb dX12_tellShare_93 rfl (lv_at hl 0 rfl) ?_
  refine gt12_29 C hK hW (rfl : shM 0 = 12) (List.mem_cons_of_mem _ mw279) (fun _ h9 => List.mem_cons_of_mem _ (inU_wsX120 _ h9)) dX12_tellShare_94 ?_
  refine lv_iload_n hx hb dX12_tellShare_97 rfl (lv_at hl 1 rfl) ?_
  refine lv_iload_n hx hb dX12_tellShare_98 rfl (lv_at hl 2 rfl) ?_
  refine k_iast okM C hK hW (shM_lt (rfl : shM 16 = 14) (by decide)) (fun g9 => ceM_14 (rfl : shM 16 = 14) (rfl : lnM 16 = 16)) hq.1 dX12_tellShare_99 (fun H locs hW => ?_)
  have hq := hq.2
  obtain ⟨h12, eh12⟩ : ∃ z : hp, z = sI h11 16 (ix x1) x2 := ⟨_, rfl⟩
  rw [← eh12] at hW
  have hq := hq h12 eh12
  refine lv_aload_n hx hb dX12_tellShare_100 rfl (lv_at hl 0 rfl) ?_
  refine gt12_28 C hK hW (rfl : shM 0 = 12) (List.mem_cons_of_mem _ mw278) (fun _ h9 => List.mem_cons_of_mem _ (inU_wsX120 _ h9)) dX12_tellShare_101 ?_
  refine lv_iload_n hx hb dX12_tellShare_104 rfl (lv_at hl 1 rfl) ?_
  refine lv_aload_n hx hb dX12_tellShare_105 rfl (lv_at hl 0 rfl) ?_
  refine lv_iconst (v := 0) hx hb dX12_tellShare_106 (by decide) ?_
  refine lv_bipush (v := 96) hx hb dX12_tellShare_107 (by decide) ?_
  refine k_ci hW (va_runV (As := [.int 0, .int 96]) (rest := [.int x1, .ref (G.2.2 15)]) (k_fix C) (c_X12_bounded l G h12 0 96 _ hq) (cwV 2 C.2.2.2.2.2.1 (gU_V mw678 mw679 mw680 mw5 mw681) rfl rfl rfl (by decide +kernel) ⟨Nat.le_of_ble_eq_true rfl, Nat.le_of_ble_eq_true rfl⟩) (k_preV hK hW (shM_lt (rfl : shM 0 = 12) (by decide)) (ceM_12 (rfl : shM 0 = 12)) (q := (RX12, TX12, 73)) rfl) rfl rfl hl.1 rfl (lv_room (Nat.le_of_ble_eq_true rfl)) dX12_tellShare_109 ⟨Nat.le_refl 0, Nat.le_refl 0⟩) (fun r14 h13 H locs hq hW => ?_)
  refine k_iast okM C hK hW (shM_lt (rfl : shM 15 = 14) (by decide)) (fun g9 => ceM_14 (rfl : shM 15 = 14) (rfl : lnM 15 = 16)) hq.1 dX12_tellShare_112 (fun H locs hW => ?_)
  have hq := hq.2
  obtain ⟨h15, eh15⟩ : ∃ z : hp, z = sI h13 15 (ix x1) r14 := ⟨_, rfl⟩
  rw [← eh15] at hW
  have hq := hq h15 eh15
  refine lv_aload_n hx hb dX12_tellShare_113 rfl (lv_at hl 0 rfl) ?_
  refine lv_iconst (v := 4) hx hb dX12_tellShare_114 (by decide) ?_
  refine k_cv hW (va_runV (As := [.int 4]) (rest := []) (k_fix C) (c_X12_must l G h15 4 _ hq) (cwV 1 C.2.2.2.2.2.1 (gU_V mw670 mw671 mw672 mw5 mw673) rfl rfl rfl (by decide +kernel) ⟨Nat.le_of_ble_eq_true rfl, Nat.le_of_ble_eq_true rfl⟩) (k_preV hK hW (shM_lt (rfl : shM 0 = 12) (by decide)) (ceM_12 (rfl : shM 0 = 12)) (q := (RX12, TX12, 73)) rfl) rfl rfl hl.1 rfl (lv_room (Nat.le_of_ble_eq_true rfl)) dX12_tellShare_115 ⟨Nat.le_refl 0, Nat.le_refl 0⟩) (fun h16 H locs hq hW => ?_)
  refine lv_aload_n hx hb dX12_tellShare_118 rfl (lv_at hl 0 rfl) ?_
  refine gt12_13 C hK hW (rfl : shM 0 = 12) (List.mem_cons_of_mem _ mw608) (fun _ h9 => List.mem_cons_of_mem _ (inU_wsX120 _ h9)) dX12_tellShare_119 ?_
  refine lv_if_ne (tgt := 138) hx hb dX12_tellShare_122 (by decide) (fun c17 => ?_) (fun c17 => ?_)
  · have hq := hq.1 c17
    exact k_vret rfl C hW dX12_tellShare_138 hq
  · have hq := hq.2 c17
    refine lv_aload_n hx hb dX12_tellShare_125 rfl (lv_at hl 0 rfl) ?_
    refine gt12_26 C hK hW (rfl : shM 0 = 12) (List.mem_cons_of_mem _ mw276) (fun _ h9 => List.mem_cons_of_mem _ (inU_wsX120 _ h9)) dX12_tellShare_126 ?_
    refine lv_aload_n hx hb dX12_tellShare_129 rfl (lv_at hl 0 rfl) ?_
    refine gt12_19 C hK hW (rfl : shM 0 = 12) (List.mem_cons_of_mem _ mw611) (fun _ h9 => List.mem_cons_of_mem _ (inU_wsX120 _ h9)) dX12_tellShare_130 ?_
    refine lv_dup2_11 hx hb dX12_tellShare_133 rfl rfl ?_
    refine k_iald C hK hW (shM_lt (rfl : shM 13 = 14) (by decide)) (ceM_14 (rfl : shM 13 = 14) (rfl : lnM 13 = 2)) hq.1 dX12_tellShare_134 ?_
    have hq := hq.2
    refine lv_iconst (v := 1) hx hb dX12_tellShare_135 (by decide) ?_
    refine lv_iadd hx hb dX12_tellShare_136 ?_
    refine k_iast okM C hK hW (shM_lt (rfl : shM 13 = 14) (by decide)) (fun g9 => ceM_14 (rfl : shM 13 = 14) (rfl : lnM 13 = 2)) hq.1 dX12_tellShare_137 (fun H locs hW => ?_)
    have hq := hq.2
    obtain ⟨h18, eh18⟩ : ∃ z : hp, z = sI h16 13 (ix (gI h16 0 19)) ((gI h16 13 (ix (gI h16 0 19))) + 1) := ⟨_, rfl⟩
    rw [← eh18] at hW
    have hq := hq h18 eh18
    exact k_vret rfl C hW dX12_tellShare_138 hq
theorem k_X12_tellShare_b34 {Q : hp → Prop} {X34 : Int32 × hp → Prop} {x1 : Int32} {x2 : Int32} {x3 : Int32} (C : kC p s m args meth c cX12_tellShare 5 none RX12 wUX12_tellShare) (hK : kK G s) (hX34 : ∀ (x4 : Int32) (h : hp) (H : Heap) (locs : List Loc) (ls : Array Slot), kW SM G h (aS SM G) s H locs → lv_has ls 5 [(0, .ref (G.2.2 0)), (1, .int x1), (2, .int x2), (3, .int x3), (4, .int x4)] → X34 (x4, h) → W p l e rmX12_tellShare s m args below meth c H locs 0 0 (MQ below (va_Qv Q (kB SM G) (aS SM G)) args s 0 0 (aS SM G)) (F0 m 34 ls [])) {x4 : Int32} {h : hp} {H : Heap} {locs : List Loc} {ls : Array Slot} (hW : kW SM G h (aS SM G) s H locs) (hl : lv_has ls 5 [(0, .ref (G.2.2 0)), (1, .int x1), (2, .int x2), (3, .int x3), (4, .int x4)]) (hq : w_X12_tellShare_b34 Q x1 x2 x3 X34 x4 h) : W p l e rmX12_tellShare s m args below meth c H locs 0 0 (MQ below (va_Qv Q (kB SM G) (aS SM G)) args s 0 0 (aS SM G)) (F0 m 34 ls []) := by
  have hx := C.1
  have hb := C.2.1
  unfold w_X12_tellShare_b34 at hq
  refine lv_iload hx hb dX12_tellShare_34 (lv_at hl 4 rfl) ?_
  refine lv_aload_n hx hb dX12_tellShare_36 rfl (lv_at hl 0 rfl) ?_
  refine gt12_26 C hK hW (rfl : shM 0 = 12) (List.mem_cons_of_mem _ mw276) (fun _ h9 => List.mem_cons_of_mem _ (inU_wsX120 _ h9)) dX12_tellShare_37 ?_
  refine lv_aload_n hx hb dX12_tellShare_40 rfl (lv_at hl 0 rfl) ?_
  refine gt12_19 C hK hW (rfl : shM 0 = 12) (List.mem_cons_of_mem _ mw611) (fun _ h9 => List.mem_cons_of_mem _ (inU_wsX120 _ h9)) dX12_tellShare_41 ?_
  refine k_iald C hK hW (shM_lt (rfl : shM 13 = 14) (by decide)) (ceM_14 (rfl : shM 13 = 14) (rfl : lnM 13 = 2)) hq.1 dX12_tellShare_44 ?_
  have hq := hq.2
  refine lv_icmp_ge (tgt := 86) hx hb dX12_tellShare_45 (by decide) (fun c5 => ?_) (fun c5 => ?_)
  · have hq := hq.1 c5
    exact k_X12_tellShare_86 C hK hW (lv_sub hl [0, 1, 2, 3] rfl) hq
  · have hq := hq.2 c5
    refine lv_aload_n hx hb dX12_tellShare_48 rfl (lv_at hl 0 rfl) ?_
    refine gt12_13 C hK hW (rfl : shM 0 = 12) (List.mem_cons_of_mem _ mw608) (fun _ h9 => List.mem_cons_of_mem _ (inU_wsX120 _ h9)) dX12_tellShare_49 ?_
    refine lv_if_ne (tgt := 86) hx hb dX12_tellShare_52 (by decide) (fun c6 => ?_) (fun c6 => ?_)
    · have hq := hq.1 c6
      exact k_X12_tellShare_86 C hK hW (lv_sub hl [0, 1, 2, 3] rfl) hq
    · have hq := hq.2 c6
      refine lv_aload_n hx hb dX12_tellShare_55 rfl (lv_at hl 0 rfl) ?_
      refine gt12_27 C hK hW (rfl : shM 0 = 12) (List.mem_cons_of_mem _ mw277) (fun _ h9 => List.mem_cons_of_mem _ (inU_wsX120 _ h9)) dX12_tellShare_56 ?_
      refine lv_bipush (v := 8) hx hb dX12_tellShare_59 (by decide) ?_
      refine lv_aload_n hx hb dX12_tellShare_61 rfl (lv_at hl 0 rfl) ?_
      refine gt12_19 C hK hW (rfl : shM 0 = 12) (List.mem_cons_of_mem _ mw611) (fun _ h9 => List.mem_cons_of_mem _ (inU_wsX120 _ h9)) dX12_tellShare_62 ?_
      refine lv_imul hx hb dX12_tellShare_65 ?_
      refine lv_iload hx hb dX12_tellShare_66 (lv_at hl 4 rfl) ?_
      refine lv_iadd hx hb dX12_tellShare_68 ?_
      refine k_iald C hK hW (shM_lt (rfl : shM 14 = 14) (by decide)) (ceM_14 (rfl : shM 14 = 14) (rfl : lnM 14 = 16)) hq.1 dX12_tellShare_69 ?_
      have hq := hq.2
      refine lv_iload_n hx hb dX12_tellShare_70 rfl (lv_at hl 3 rfl) ?_
      refine lv_icmp_ne (tgt := 80) hx hb dX12_tellShare_71 (by decide) (fun c7 => ?_) (fun c7 => ?_)
      · have hq := hq.1 c7
        obtain ⟨x4_8, ex4_8⟩ : ∃ y : Int32, y = x4 + 1 := ⟨_, rfl⟩
        have hq := hq x4_8 ex4_8
        refine lv_iinc (v := x4_8) (lv' := [(4, .int x4_8), (0, .ref (G.2.2 0)), (1, .int x1), (2, .int x2), (3, .int x3)]) hx hb dX12_tellShare_80 hl (k := 4) rfl (by rw [ex4_8]; rfl) (by decide) rfl (fun ls hl => ?_)
        refine lv_goto (tgt := 34) hx hb dX12_tellShare_83 (by decide) ?_
        exact hX34 _ _ _ _ _ hW (lv_sub hl [1, 2, 3, 4, 0] rfl) hq
      · have hq := hq.2 c7
        refine lv_aload_n hx hb dX12_tellShare_74 rfl (lv_at hl 0 rfl) ?_
        refine lv_iconst (v := 5) hx hb dX12_tellShare_75 (by decide) ?_
        refine lv_iload_n hx hb dX12_tellShare_76 rfl (lv_at hl 2 rfl) ?_
        refine k_cv hW (va_runV (As := [.int 5, .int x2]) (rest := []) (k_fix C) (c_X12_amiss l G h 5 x2 _ hq) (cwV 2 C.2.2.2.2.2.1 (gU_V mw674 mw675 mw676 mw5 mw677) rfl rfl rfl (by decide +kernel) ⟨Nat.le_of_ble_eq_true rfl, Nat.le_of_ble_eq_true rfl⟩) (k_preV hK hW (shM_lt (rfl : shM 0 = 12) (by decide)) (ceM_12 (rfl : shM 0 = 12)) (q := (RX12, TX12, 73)) rfl) rfl rfl hl.1 rfl (lv_room (Nat.le_of_ble_eq_true rfl)) dX12_tellShare_77 ⟨Nat.le_refl 0, Nat.le_refl 0⟩) (fun h9 H locs hq hW => ?_)
        obtain ⟨x4_10, ex4_10⟩ : ∃ y : Int32, y = x4 + 1 := ⟨_, rfl⟩
        have hq := hq x4_10 ex4_10
        refine lv_iinc (v := x4_10) (lv' := [(4, .int x4_10), (0, .ref (G.2.2 0)), (1, .int x1), (2, .int x2), (3, .int x3)]) hx hb dX12_tellShare_80 hl (k := 4) rfl (by rw [ex4_10]; rfl) (by decide) rfl (fun ls hl => ?_)
        refine lv_goto (tgt := 34) hx hb dX12_tellShare_83 (by decide) ?_
        exact hX34 _ _ _ _ _ hW (lv_sub hl [1, 2, 3, 4, 0] rfl) hq
theorem k_X12_tellShare_34 {Q : hp → Prop} {x1 : Int32} {x2 : Int32} {x3 : Int32} (C : kC p s m args meth c cX12_tellShare 5 none RX12 wUX12_tellShare) (hK : kK G s) {x4 : Int32} {h : hp} {H : Heap} {locs : List Loc} {ls : Array Slot} (hW : kW SM G h (aS SM G) s H locs) (hl : lv_has ls 5 [(0, .ref (G.2.2 0)), (1, .int x1), (2, .int x2), (3, .int x3), (4, .int x4)]) (hq : w_X12_tellShare_34 Q x1 x2 x3 x4 h) : W p l e rmX12_tellShare s m args below meth c H locs 0 0 (MQ below (va_Qv Q (kB SM G) (aS SM G)) args s 0 0 (aS SM G)) (F0 m 34 ls []) := by
  have key := hq (fun (q : Int32 × hp) => ∀ (H : Heap) (locs : List Loc) (ls : Array Slot), kW SM G q.2 (aS SM G) s H locs → lv_has ls 5 [(0, .ref (G.2.2 0)), (1, .int x1), (2, .int x2), (3, .int x3), (4, .int q.1)] → W p l e rmX12_tellShare s m args below meth c H locs 0 0 (MQ below (va_Qv Q (kB SM G) (aS SM G)) args s 0 0 (aS SM G)) (F0 m 34 ls []))
    (fun q hq H locs ls hW hl => k_X12_tellShare_b34 C hK (fun x4 h H locs ls hW hl hI => hI H locs ls hW hl) hW hl hq)
  exact key _ _ _ hW hl
theorem k_X12_tellShare_0 {Q : hp → Prop} {h : hp} (C : kC p s m args meth c cX12_tellShare 5 none RX12 wUX12_tellShare) (hK : kK G s) {H : Heap} {locs : List Loc} {ls : Array Slot} (hW : kW SM G h (aS SM G) s H locs) (hl : lv_has ls 5 [(0, .ref (G.2.2 0))]) (hq : w_X12_tellShare_0 Q h) : W p l e rmX12_tellShare s m args below meth c H locs 0 0 (MQ below (va_Qv Q (kB SM G) (aS SM G)) args s 0 0 (aS SM G)) (F0 m 0 ls []) := by
  have hx := C.1
  have hb := C.2.1
  unfold w_X12_tellShare_0 at hq
  refine lv_bipush (v := 8) hx hb dX12_tellShare_0 (by decide) ?_
  refine lv_aload_n hx hb dX12_tellShare_2 rfl (lv_at hl 0 rfl) ?_
  refine gt12_19 C hK hW (rfl : shM 0 = 12) (List.mem_cons_of_mem _ mw611) (fun _ h9 => List.mem_cons_of_mem _ (inU_wsX120 _ h9)) dX12_tellShare_3 ?_
  refine lv_imul hx hb dX12_tellShare_6 ?_
  refine lv_aload_n hx hb dX12_tellShare_7 rfl (lv_at hl 0 rfl) ?_
  refine gt12_26 C hK hW (rfl : shM 0 = 12) (List.mem_cons_of_mem _ mw276) (fun _ h9 => List.mem_cons_of_mem _ (inU_wsX120 _ h9)) dX12_tellShare_8 ?_
  refine lv_aload_n hx hb dX12_tellShare_11 rfl (lv_at hl 0 rfl) ?_
  refine gt12_19 C hK hW (rfl : shM 0 = 12) (List.mem_cons_of_mem _ mw611) (fun _ h9 => List.mem_cons_of_mem _ (inU_wsX120 _ h9)) dX12_tellShare_12 ?_
  refine k_iald C hK hW (shM_lt (rfl : shM 13 = 14) (by decide)) (ceM_14 (rfl : shM 13 = 14) (rfl : lnM 13 = 2)) hq.1 dX12_tellShare_15 ?_
  have hq := hq.2
  refine lv_iadd hx hb dX12_tellShare_16 ?_
  refine lv_topi (fun x1_1 ex1_1 => ?_)
  have hq := hq x1_1 ex1_1
  refine lv_istore_n (lv' := [(1, .int x1_1), (0, .ref (G.2.2 0))]) hx hb dX12_tellShare_17 rfl hl (by decide) rfl (fun ls hl => ?_)
  refine lv_aload_n hx hb dX12_tellShare_18 rfl (lv_at hl 1 rfl) ?_
  refine gt12_11 C hK hW (rfl : shM 0 = 12) (List.mem_cons_of_mem _ mw606) (fun _ h9 => List.mem_cons_of_mem _ (inU_wsX120 _ h9)) dX12_tellShare_19 ?_
  refine lv_topi (fun x2_2 ex2_2 => ?_)
  have hq := hq x2_2 ex2_2
  refine lv_istore_n (lv' := [(2, .int x2_2), (1, .int x1_1), (0, .ref (G.2.2 0))]) hx hb dX12_tellShare_22 rfl hl (by decide) rfl (fun ls hl => ?_)
  refine lv_aload_n hx hb dX12_tellShare_23 rfl (lv_at hl 2 rfl) ?_
  refine lv_iconst (v := 1) hx hb dX12_tellShare_24 (by decide) ?_
  refine lv_bipush (v := 96) hx hb dX12_tellShare_25 (by decide) ?_
  refine k_ci hW (va_runV (As := [.int 1, .int 96]) (rest := []) (k_fix C) (c_X12_bounded l G h 1 96 _ hq) (cwV 2 C.2.2.2.2.2.1 (gU_V mw678 mw679 mw680 mw5 mw681) rfl rfl rfl (by decide +kernel) ⟨Nat.le_of_ble_eq_true rfl, Nat.le_of_ble_eq_true rfl⟩) (k_preV hK hW (shM_lt (rfl : shM 0 = 12) (by decide)) (ceM_12 (rfl : shM 0 = 12)) (q := (RX12, TX12, 73)) rfl) rfl rfl hl.1 rfl (lv_room (Nat.le_of_ble_eq_true rfl)) dX12_tellShare_27 ⟨Nat.le_refl 0, Nat.le_refl 0⟩) (fun r4 h3 H locs hq hW => ?_)
  refine lv_istore_n (lv' := [(3, .int r4), (2, .int x2_2), (1, .int x1_1), (0, .ref (G.2.2 0))]) hx hb dX12_tellShare_30 rfl hl (by decide) rfl (fun ls hl => ?_)
  refine lv_iconst (v := 0) hx hb dX12_tellShare_31 (by decide) ?_
  refine lv_istore (lv' := [(4, .int 0), (3, .int r4), (2, .int x2_2), (1, .int x1_1), (0, .ref (G.2.2 0))]) hx hb dX12_tellShare_32 hl (by decide) rfl (fun ls hl => ?_)
  exact k_X12_tellShare_34 C hK hW (lv_sub hl [4, 3, 2, 1, 0] rfl) hq
theorem c_X12_tellShare (l : Launch) (G : wG) (h : hp) (Q : hp → Prop) (hq : w_X12_tellShare h Q) : ctV l SM G yX12_tellShare wUX12_tellShare rmX12_tellShare h [.ref (G.2.2 0)] Q := by
  refine k_start (cc := cX12_tellShare) (maxL := 5) (rt := none) (own := RX12) (by decide +kernel) rfl rfl (Nat.le_of_ble_eq_true rfl) ?_
  intro p e s m below meth c ls C hK hW hl
  exact k_X12_tellShare_0 C hK hW hl hq
theorem k_X12_tell_0 {Q : hp → Prop} {h : hp} (C : kC p s m args meth c cX12_tell 1 none RX12 wUX12_tell) (hK : kK G s) {H : Heap} {locs : List Loc} {ls : Array Slot} (hW : kW SM G h (aS SM G) s H locs) (hl : lv_has ls 1 [(0, .ref (G.2.2 0))]) (hq : w_X12_tell_0 Q h) : W p l e rmX12_tell s m args below meth c H locs 0 0 (MQ below (va_Qv Q (kB SM G) (aS SM G)) args s 0 0 (aS SM G)) (F0 m 0 ls []) := by
  have hx := C.1
  have hb := C.2.1
  unfold w_X12_tell_0 at hq
  refine lv_aload_n hx hb dX12_tell_0 rfl (lv_at hl 0 rfl) ?_
  refine gt12_5 C hK hW (rfl : shM 0 = 12) (List.mem_cons_of_mem _ mw265) (fun _ h9 => List.mem_cons_of_mem _ (inU_wsX120 _ h9)) dX12_tell_1 ?_
  refine lv_aload_n hx hb dX12_tell_4 rfl (lv_at hl 0 rfl) ?_
  refine gt12_11 C hK hW (rfl : shM 0 = 12) (List.mem_cons_of_mem _ mw606) (fun _ h9 => List.mem_cons_of_mem _ (inU_wsX120 _ h9)) dX12_tell_5 ?_
  refine k_iald C hK hW (shM_lt (rfl : shM 3 = 14) (by decide)) (ceM_14 (rfl : shM 3 = 14) (rfl : lnM 3 = 403)) hq.1 dX12_tell_8 ?_
  have hq := hq.2
  refine lv_topi (fun sw1 esw1 => ?_)
  have hq := hq sw1 esw1
  by_cases c2 : sw1 = 20
  · have hq := hq.1 c2
    refine k_top c2 ?_
    refine lv_tableIn (tgt := 56) (off := 47) hx hb dX12_tell_9 (by decide) (by decide) (by decide) (by decide) ?_
    refine lv_aload_n hx hb dX12_tell_56 rfl (lv_at hl 0 rfl) ?_
    refine lv_aload_n hx hb dX12_tell_57 rfl (lv_at hl 0 rfl) ?_
    refine gt12_22 C hK hW (rfl : shM 0 = 12) (List.mem_cons_of_mem _ mw272) (fun _ h9 => List.mem_cons_of_mem _ (inU_wsX120 _ h9)) dX12_tell_58 ?_
    refine lv_aload_n hx hb dX12_tell_61 rfl (lv_at hl 0 rfl) ?_
    refine gt12_19 C hK hW (rfl : shM 0 = 12) (List.mem_cons_of_mem _ mw611) (fun _ h9 => List.mem_cons_of_mem _ (inU_wsX120 _ h9)) dX12_tell_62 ?_
    refine k_iald C hK hW (shM_lt (rfl : shM 9 = 14) (by decide)) (ceM_14 (rfl : shM 9 = 14) (rfl : lnM 9 = 2)) hq.1 dX12_tell_65 ?_
    have hq := hq.2
    refine lv_bipush (v := 6) hx hb dX12_tell_66 (by decide) ?_
    refine k_cv hW (va_runV (As := [.int (gI h 9 (ix (gI h 0 19))), .int 6]) (rest := []) (k_fix C) (c_X12_roomFor l G h (gI h 9 (ix (gI h 0 19))) 6 _ hq) (cwV 2 C.2.2.2.2.2.1 (gU_V mw650 mw651 mw652 mw5 mw653) rfl rfl rfl (by decide +kernel) ⟨Nat.le_of_ble_eq_true rfl, Nat.le_of_ble_eq_true rfl⟩) (k_preV hK hW (shM_lt (rfl : shM 0 = 12) (by decide)) (ceM_12 (rfl : shM 0 = 12)) (q := (RX12, TX12, 73)) rfl) rfl rfl hl.1 rfl (lv_room (Nat.le_of_ble_eq_true rfl)) dX12_tell_68 ⟨Nat.le_refl 0, Nat.le_refl 0⟩) (fun h3 H locs hq hW => ?_)
    refine lv_aload_n hx hb dX12_tell_71 rfl (lv_at hl 0 rfl) ?_
    refine gt12_13 C hK hW (rfl : shM 0 = 12) (List.mem_cons_of_mem _ mw608) (fun _ h9 => List.mem_cons_of_mem _ (inU_wsX120 _ h9)) dX12_tell_72 ?_
    refine lv_if_ne (tgt := 316) hx hb dX12_tell_75 (by decide) (fun c4 => ?_) (fun c4 => ?_)
    · have hq := hq.1 c4
      exact k_vret rfl C hW dX12_tell_316 hq
    · have hq := hq.2 c4
      refine lv_aload_n hx hb dX12_tell_78 rfl (lv_at hl 0 rfl) ?_
      refine k_cv hW (va_runV (As := []) (rest := []) (k_fix C) (c_X12_tellRow l G h3 _ hq) (cwV 0 C.2.2.2.2.2.1 (gU_V mw662 mw663 mw664 mw5 mw665) rfl rfl rfl (by decide +kernel) ⟨Nat.le_of_ble_eq_true rfl, Nat.le_of_ble_eq_true rfl⟩) (k_preV hK hW (shM_lt (rfl : shM 0 = 12) (by decide)) (ceM_12 (rfl : shM 0 = 12)) (q := (RX12, TX12, 73)) rfl) rfl rfl hl.1 rfl (lv_room (Nat.le_of_ble_eq_true rfl)) dX12_tell_79 ⟨Nat.le_refl 0, Nat.le_refl 0⟩) (fun h5 H locs hq hW => ?_)
      refine lv_goto (tgt := 316) hx hb dX12_tell_82 (by decide) ?_
      exact k_vret rfl C hW dX12_tell_316 hq
  have hq := hq.2
  by_cases c6 : sw1 = 21
  · have hq := hq.1 c6
    refine k_top c6 ?_
    refine lv_tableIn (tgt := 85) (off := 76) hx hb dX12_tell_9 (by decide) (by decide) (by decide) (by decide) ?_
    refine lv_aload_n hx hb dX12_tell_85 rfl (lv_at hl 0 rfl) ?_
    refine lv_aload_n hx hb dX12_tell_86 rfl (lv_at hl 0 rfl) ?_
    refine gt12_22 C hK hW (rfl : shM 0 = 12) (List.mem_cons_of_mem _ mw272) (fun _ h9 => List.mem_cons_of_mem _ (inU_wsX120 _ h9)) dX12_tell_87 ?_
    refine lv_aload_n hx hb dX12_tell_90 rfl (lv_at hl 0 rfl) ?_
    refine gt12_19 C hK hW (rfl : shM 0 = 12) (List.mem_cons_of_mem _ mw611) (fun _ h9 => List.mem_cons_of_mem _ (inU_wsX120 _ h9)) dX12_tell_91 ?_
    refine k_iald C hK hW (shM_lt (rfl : shM 9 = 14) (by decide)) (ceM_14 (rfl : shM 9 = 14) (rfl : lnM 9 = 2)) hq.1 dX12_tell_94 ?_
    have hq := hq.2
    refine lv_bipush (v := 6) hx hb dX12_tell_95 (by decide) ?_
    refine k_cv hW (va_runV (As := [.int (gI h 9 (ix (gI h 0 19))), .int 6]) (rest := []) (k_fix C) (c_X12_roomFor l G h (gI h 9 (ix (gI h 0 19))) 6 _ hq) (cwV 2 C.2.2.2.2.2.1 (gU_V mw650 mw651 mw652 mw5 mw653) rfl rfl rfl (by decide +kernel) ⟨Nat.le_of_ble_eq_true rfl, Nat.le_of_ble_eq_true rfl⟩) (k_preV hK hW (shM_lt (rfl : shM 0 = 12) (by decide)) (ceM_12 (rfl : shM 0 = 12)) (q := (RX12, TX12, 73)) rfl) rfl rfl hl.1 rfl (lv_room (Nat.le_of_ble_eq_true rfl)) dX12_tell_97 ⟨Nat.le_refl 0, Nat.le_refl 0⟩) (fun h7 H locs hq hW => ?_)
    refine lv_aload_n hx hb dX12_tell_100 rfl (lv_at hl 0 rfl) ?_
    refine gt12_13 C hK hW (rfl : shM 0 = 12) (List.mem_cons_of_mem _ mw608) (fun _ h9 => List.mem_cons_of_mem _ (inU_wsX120 _ h9)) dX12_tell_101 ?_
    refine lv_if_ne (tgt := 316) hx hb dX12_tell_104 (by decide) (fun c8 => ?_) (fun c8 => ?_)
    · have hq := hq.1 c8
      exact k_vret rfl C hW dX12_tell_316 hq
    · have hq := hq.2 c8
      refine lv_aload_n hx hb dX12_tell_107 rfl (lv_at hl 0 rfl) ?_
      refine k_cv hW (va_runV (As := []) (rest := []) (k_fix C) (c_X12_tellList l G h7 _ hq) (cwV 0 C.2.2.2.2.2.1 (gU_V mw720 mw721 mw722 mw5 mw723) rfl rfl rfl (by decide +kernel) ⟨Nat.le_of_ble_eq_true rfl, Nat.le_of_ble_eq_true rfl⟩) (k_preV hK hW (shM_lt (rfl : shM 0 = 12) (by decide)) (ceM_12 (rfl : shM 0 = 12)) (q := (RX12, TX12, 73)) rfl) rfl rfl hl.1 rfl (lv_room (Nat.le_of_ble_eq_true rfl)) dX12_tell_108 ⟨Nat.le_refl 0, Nat.le_refl 0⟩) (fun h9 H locs hq hW => ?_)
      refine lv_goto (tgt := 316) hx hb dX12_tell_111 (by decide) ?_
      exact k_vret rfl C hW dX12_tell_316 hq
  have hq := hq.2
  by_cases c10 : sw1 = 22
  · have hq := hq.1 c10
    refine k_top c10 ?_
    refine lv_tableIn (tgt := 114) (off := 105) hx hb dX12_tell_9 (by decide) (by decide) (by decide) (by decide) ?_
    refine lv_aload_n hx hb dX12_tell_114 rfl (lv_at hl 0 rfl) ?_
    refine k_cv hW (va_runV (As := []) (rest := []) (k_fix C) (c_X12_goesOn l G h _ hq) (cwV 0 C.2.2.2.2.2.1 (gU_V mw658 mw659 mw660 mw5 mw661) rfl rfl rfl (by decide +kernel) ⟨Nat.le_of_ble_eq_true rfl, Nat.le_of_ble_eq_true rfl⟩) (k_preV hK hW (shM_lt (rfl : shM 0 = 12) (by decide)) (ceM_12 (rfl : shM 0 = 12)) (q := (RX12, TX12, 73)) rfl) rfl rfl hl.1 rfl (lv_room (Nat.le_of_ble_eq_true rfl)) dX12_tell_115 ⟨Nat.le_refl 0, Nat.le_refl 0⟩) (fun h11 H locs hq hW => ?_)
    refine lv_aload_n hx hb dX12_tell_118 rfl (lv_at hl 0 rfl) ?_
    refine lv_iconst (v := 0) hx hb dX12_tell_119 (by decide) ?_
    refine k_cv hW (va_runV (As := [.int 0]) (rest := []) (k_fix C) (c_X12_tellLaw l G h11 0 _ hq) (cwV 1 C.2.2.2.2.2.1 (gU_V mw682 mw683 mw684 mw5 mw685) rfl rfl rfl (by decide +kernel) ⟨Nat.le_of_ble_eq_true rfl, Nat.le_of_ble_eq_true rfl⟩) (k_preV hK hW (shM_lt (rfl : shM 0 = 12) (by decide)) (ceM_12 (rfl : shM 0 = 12)) (q := (RX12, TX12, 73)) rfl) rfl rfl hl.1 rfl (lv_room (Nat.le_of_ble_eq_true rfl)) dX12_tell_120 ⟨Nat.le_refl 0, Nat.le_refl 0⟩) (fun h12 H locs hq hW => ?_)
    refine lv_goto (tgt := 316) hx hb dX12_tell_123 (by decide) ?_
    exact k_vret rfl C hW dX12_tell_316 hq
  have hq := hq.2
  by_cases c13 : sw1 = 23
  · have hq := hq.1 c13
    refine k_top c13 ?_
    refine lv_tableIn (tgt := 126) (off := 117) hx hb dX12_tell_9 (by decide) (by decide) (by decide) (by decide) ?_
    refine lv_aload_n hx hb dX12_tell_126 rfl (lv_at hl 0 rfl) ?_
    refine k_cv hW (va_runV (As := []) (rest := []) (k_fix C) (c_X12_goesOn l G h _ hq) (cwV 0 C.2.2.2.2.2.1 (gU_V mw658 mw659 mw660 mw5 mw661) rfl rfl rfl (by decide +kernel) ⟨Nat.le_of_ble_eq_true rfl, Nat.le_of_ble_eq_true rfl⟩) (k_preV hK hW (shM_lt (rfl : shM 0 = 12) (by decide)) (ceM_12 (rfl : shM 0 = 12)) (q := (RX12, TX12, 73)) rfl) rfl rfl hl.1 rfl (lv_room (Nat.le_of_ble_eq_true rfl)) dX12_tell_127 ⟨Nat.le_refl 0, Nat.le_refl 0⟩) (fun h14 H locs hq hW => ?_)
    refine lv_aload_n hx hb dX12_tell_130 rfl (lv_at hl 0 rfl) ?_
    refine k_cv hW (va_runV (As := []) (rest := []) (k_fix C) (c_X12_tellPrime l G h14 _ hq) (cwV 0 C.2.2.2.2.2.1 (gU_V mw724 mw725 mw726 mw5 mw727) rfl rfl rfl (by decide +kernel) ⟨Nat.le_of_ble_eq_true rfl, Nat.le_of_ble_eq_true rfl⟩) (k_preV hK hW (shM_lt (rfl : shM 0 = 12) (by decide)) (ceM_12 (rfl : shM 0 = 12)) (q := (RX12, TX12, 73)) rfl) rfl rfl hl.1 rfl (lv_room (Nat.le_of_ble_eq_true rfl)) dX12_tell_131 ⟨Nat.le_refl 0, Nat.le_refl 0⟩) (fun h15 H locs hq hW => ?_)
    refine lv_goto (tgt := 316) hx hb dX12_tell_134 (by decide) ?_
    exact k_vret rfl C hW dX12_tell_316 hq
  have hq := hq.2
  by_cases c16 : sw1 = 24
  · have hq := hq.1 c16
    refine k_top c16 ?_
    refine lv_tableIn (tgt := 137) (off := 128) hx hb dX12_tell_9 (by decide) (by decide) (by decide) (by decide) ?_
    refine lv_aload_n hx hb dX12_tell_137 rfl (lv_at hl 0 rfl) ?_
    refine lv_aload_n hx hb dX12_tell_138 rfl (lv_at hl 0 rfl) ?_
    refine gt12_26 C hK hW (rfl : shM 0 = 12) (List.mem_cons_of_mem _ mw276) (fun _ h9 => List.mem_cons_of_mem _ (inU_wsX120 _ h9)) dX12_tell_139 ?_
    refine lv_aload_n hx hb dX12_tell_142 rfl (lv_at hl 0 rfl) ?_
    refine gt12_19 C hK hW (rfl : shM 0 = 12) (List.mem_cons_of_mem _ mw611) (fun _ h9 => List.mem_cons_of_mem _ (inU_wsX120 _ h9)) dX12_tell_143 ?_
    refine k_iald C hK hW (shM_lt (rfl : shM 13 = 14) (by decide)) (ceM_14 (rfl : shM 13 = 14) (rfl : lnM 13 = 2)) hq.1 dX12_tell_146 ?_
    have hq := hq.2
    refine lv_bipush (v := 8) hx hb dX12_tell_147 (by decide) ?_
    refine k_cv hW (va_runV (As := [.int (gI h 13 (ix (gI h 0 19))), .int 8]) (rest := []) (k_fix C) (c_X12_roomFor l G h (gI h 13 (ix (gI h 0 19))) 8 _ hq) (cwV 2 C.2.2.2.2.2.1 (gU_V mw650 mw651 mw652 mw5 mw653) rfl rfl rfl (by decide +kernel) ⟨Nat.le_of_ble_eq_true rfl, Nat.le_of_ble_eq_true rfl⟩) (k_preV hK hW (shM_lt (rfl : shM 0 = 12) (by decide)) (ceM_12 (rfl : shM 0 = 12)) (q := (RX12, TX12, 73)) rfl) rfl rfl hl.1 rfl (lv_room (Nat.le_of_ble_eq_true rfl)) dX12_tell_149 ⟨Nat.le_refl 0, Nat.le_refl 0⟩) (fun h17 H locs hq hW => ?_)
    refine lv_aload_n hx hb dX12_tell_152 rfl (lv_at hl 0 rfl) ?_
    refine gt12_13 C hK hW (rfl : shM 0 = 12) (List.mem_cons_of_mem _ mw608) (fun _ h9 => List.mem_cons_of_mem _ (inU_wsX120 _ h9)) dX12_tell_153 ?_
    refine lv_if_ne (tgt := 316) hx hb dX12_tell_156 (by decide) (fun c18 => ?_) (fun c18 => ?_)
    · have hq := hq.1 c18
      exact k_vret rfl C hW dX12_tell_316 hq
    · have hq := hq.2 c18
      refine lv_aload_n hx hb dX12_tell_159 rfl (lv_at hl 0 rfl) ?_
      refine k_cv hW (va_runV (As := []) (rest := []) (k_fix C) (c_X12_tellShare l G h17 _ hq) (cwV 0 C.2.2.2.2.2.1 (gU_V mw728 mw729 mw730 mw5 mw731) rfl rfl rfl (by decide +kernel) ⟨Nat.le_of_ble_eq_true rfl, Nat.le_of_ble_eq_true rfl⟩) (k_preV hK hW (shM_lt (rfl : shM 0 = 12) (by decide)) (ceM_12 (rfl : shM 0 = 12)) (q := (RX12, TX12, 73)) rfl) rfl rfl hl.1 rfl (lv_room (Nat.le_of_ble_eq_true rfl)) dX12_tell_160 ⟨Nat.le_refl 0, Nat.le_refl 0⟩) (fun h19 H locs hq hW => ?_)
      refine lv_goto (tgt := 316) hx hb dX12_tell_163 (by decide) ?_
      exact k_vret rfl C hW dX12_tell_316 hq
  have hq := hq.2
  by_cases c20 : sw1 = 25
  · have hq := hq.1 c20
    refine k_top c20 ?_
    refine lv_tableIn (tgt := 166) (off := 157) hx hb dX12_tell_9 (by decide) (by decide) (by decide) (by decide) ?_
    refine lv_aload_n hx hb dX12_tell_166 rfl (lv_at hl 0 rfl) ?_
    refine lv_aload_n hx hb dX12_tell_167 rfl (lv_at hl 0 rfl) ?_
    refine gt12_30 C hK hW (rfl : shM 0 = 12) (List.mem_cons_of_mem _ mw280) (fun _ h9 => List.mem_cons_of_mem _ (inU_wsX120 _ h9)) dX12_tell_168 ?_
    refine lv_aload_n hx hb dX12_tell_171 rfl (lv_at hl 0 rfl) ?_
    refine gt12_19 C hK hW (rfl : shM 0 = 12) (List.mem_cons_of_mem _ mw611) (fun _ h9 => List.mem_cons_of_mem _ (inU_wsX120 _ h9)) dX12_tell_172 ?_
    refine k_iald C hK hW (shM_lt (rfl : shM 17 = 14) (by decide)) (ceM_14 (rfl : shM 17 = 14) (rfl : lnM 17 = 2)) hq.1 dX12_tell_175 ?_
    have hq := hq.2
    refine lv_bipush (v := 9) hx hb dX12_tell_176 (by decide) ?_
    refine k_cv hW (va_runV (As := [.int (gI h 17 (ix (gI h 0 19))), .int 9]) (rest := []) (k_fix C) (c_X12_roomFor l G h (gI h 17 (ix (gI h 0 19))) 9 _ hq) (cwV 2 C.2.2.2.2.2.1 (gU_V mw650 mw651 mw652 mw5 mw653) rfl rfl rfl (by decide +kernel) ⟨Nat.le_of_ble_eq_true rfl, Nat.le_of_ble_eq_true rfl⟩) (k_preV hK hW (shM_lt (rfl : shM 0 = 12) (by decide)) (ceM_12 (rfl : shM 0 = 12)) (q := (RX12, TX12, 73)) rfl) rfl rfl hl.1 rfl (lv_room (Nat.le_of_ble_eq_true rfl)) dX12_tell_178 ⟨Nat.le_refl 0, Nat.le_refl 0⟩) (fun h21 H locs hq hW => ?_)
    refine lv_aload_n hx hb dX12_tell_181 rfl (lv_at hl 0 rfl) ?_
    refine gt12_13 C hK hW (rfl : shM 0 = 12) (List.mem_cons_of_mem _ mw608) (fun _ h9 => List.mem_cons_of_mem _ (inU_wsX120 _ h9)) dX12_tell_182 ?_
    refine lv_if_le (tgt := 189) hx hb dX12_tell_185 (by decide) (fun c22 => ?_) (fun c22 => ?_)
    · have hq := hq.1 c22
      refine lv_aload_n hx hb dX12_tell_189 rfl (lv_at hl 0 rfl) ?_
      refine gt12_31 C hK hW (rfl : shM 0 = 12) (List.mem_cons_of_mem _ mw281) (fun _ h9 => List.mem_cons_of_mem _ (inU_wsX120 _ h9)) dX12_tell_190 ?_
      refine lv_bipush (v := 9) hx hb dX12_tell_193 (by decide) ?_
      refine lv_aload_n hx hb dX12_tell_195 rfl (lv_at hl 0 rfl) ?_
      refine gt12_19 C hK hW (rfl : shM 0 = 12) (List.mem_cons_of_mem _ mw611) (fun _ h9 => List.mem_cons_of_mem _ (inU_wsX120 _ h9)) dX12_tell_196 ?_
      refine lv_imul hx hb dX12_tell_199 ?_
      refine lv_aload_n hx hb dX12_tell_200 rfl (lv_at hl 0 rfl) ?_
      refine gt12_30 C hK hW (rfl : shM 0 = 12) (List.mem_cons_of_mem _ mw280) (fun _ h9 => List.mem_cons_of_mem _ (inU_wsX120 _ h9)) dX12_tell_201 ?_
      refine lv_aload_n hx hb dX12_tell_204 rfl (lv_at hl 0 rfl) ?_
      refine gt12_19 C hK hW (rfl : shM 0 = 12) (List.mem_cons_of_mem _ mw611) (fun _ h9 => List.mem_cons_of_mem _ (inU_wsX120 _ h9)) dX12_tell_205 ?_
      refine k_iald C hK hW (shM_lt (rfl : shM 17 = 14) (by decide)) (ceM_14 (rfl : shM 17 = 14) (rfl : lnM 17 = 2)) hq.1 dX12_tell_208 ?_
      have hq := hq.2
      refine lv_iadd hx hb dX12_tell_209 ?_
      refine lv_aload_n hx hb dX12_tell_210 rfl (lv_at hl 0 rfl) ?_
      refine lv_iconst (v := 0) hx hb dX12_tell_211 (by decide) ?_
      refine lv_sipush (v := 999) hx hb dX12_tell_212 (by decide) ?_
      refine k_ci hW (va_runV (As := [.int 0, .int 999]) (rest := [.int ((9 * (gI h21 0 19)) + (gI h21 17 (ix (gI h21 0 19)))), .ref (G.2.2 18)]) (k_fix C) (c_X12_bounded l G h21 0 999 _ hq) (cwV 2 C.2.2.2.2.2.1 (gU_V mw678 mw679 mw680 mw5 mw681) rfl rfl rfl (by decide +kernel) ⟨Nat.le_of_ble_eq_true rfl, Nat.le_of_ble_eq_true rfl⟩) (k_preV hK hW (shM_lt (rfl : shM 0 = 12) (by decide)) (ceM_12 (rfl : shM 0 = 12)) (q := (RX12, TX12, 73)) rfl) rfl rfl hl.1 rfl (lv_room (Nat.le_of_ble_eq_true rfl)) dX12_tell_215 ⟨Nat.le_refl 0, Nat.le_refl 0⟩) (fun r24 h23 H locs hq hW => ?_)
      refine k_iast okM C hK hW (shM_lt (rfl : shM 18 = 14) (by decide)) (fun g9 => ceM_14 (rfl : shM 18 = 14) (rfl : lnM 18 = 18)) hq.1 dX12_tell_218 (fun H locs hW => ?_)
      have hq := hq.2
      obtain ⟨h25, eh25⟩ : ∃ z : hp, z = sI h23 18 (ix ((9 * (gI h21 0 19)) + (gI h21 17 (ix (gI h21 0 19))))) r24 := ⟨_, rfl⟩
      rw [← eh25] at hW
      have hq := hq h25 eh25
      refine lv_aload_n hx hb dX12_tell_219 rfl (lv_at hl 0 rfl) ?_
      refine lv_iconst (v := 4) hx hb dX12_tell_220 (by decide) ?_
      refine k_cv hW (va_runV (As := [.int 4]) (rest := []) (k_fix C) (c_X12_must l G h25 4 _ hq) (cwV 1 C.2.2.2.2.2.1 (gU_V mw670 mw671 mw672 mw5 mw673) rfl rfl rfl (by decide +kernel) ⟨Nat.le_of_ble_eq_true rfl, Nat.le_of_ble_eq_true rfl⟩) (k_preV hK hW (shM_lt (rfl : shM 0 = 12) (by decide)) (ceM_12 (rfl : shM 0 = 12)) (q := (RX12, TX12, 73)) rfl) rfl rfl hl.1 rfl (lv_room (Nat.le_of_ble_eq_true rfl)) dX12_tell_221 ⟨Nat.le_refl 0, Nat.le_refl 0⟩) (fun h26 H locs hq hW => ?_)
      refine lv_aload_n hx hb dX12_tell_224 rfl (lv_at hl 0 rfl) ?_
      refine gt12_30 C hK hW (rfl : shM 0 = 12) (List.mem_cons_of_mem _ mw280) (fun _ h9 => List.mem_cons_of_mem _ (inU_wsX120 _ h9)) dX12_tell_225 ?_
      refine lv_aload_n hx hb dX12_tell_228 rfl (lv_at hl 0 rfl) ?_
      refine gt12_19 C hK hW (rfl : shM 0 = 12) (List.mem_cons_of_mem _ mw611) (fun _ h9 => List.mem_cons_of_mem _ (inU_wsX120 _ h9)) dX12_tell_229 ?_
      refine lv_dup2_11 hx hb dX12_tell_232 rfl rfl ?_
      refine k_iald C hK hW (shM_lt (rfl : shM 17 = 14) (by decide)) (ceM_14 (rfl : shM 17 = 14) (rfl : lnM 17 = 2)) hq.1 dX12_tell_233 ?_
      have hq := hq.2
      refine lv_iconst (v := 1) hx hb dX12_tell_234 (by decide) ?_
      refine lv_iadd hx hb dX12_tell_235 ?_
      refine k_iast okM C hK hW (shM_lt (rfl : shM 17 = 14) (by decide)) (fun g9 => ceM_14 (rfl : shM 17 = 14) (rfl : lnM 17 = 2)) hq.1 dX12_tell_236 (fun H locs hW => ?_)
      have hq := hq.2
      obtain ⟨h27, eh27⟩ : ∃ z : hp, z = sI h26 17 (ix (gI h26 0 19)) ((gI h26 17 (ix (gI h26 0 19))) + 1) := ⟨_, rfl⟩
      rw [← eh27] at hW
      have hq := hq h27 eh27
      refine lv_goto (tgt := 316) hx hb dX12_tell_237 (by decide) ?_
      exact k_vret rfl C hW dX12_tell_316 hq
    · have hq := hq.2 c22
      exact k_vret rfl C hW dX12_tell_188 hq
  have hq := hq.2
  by_cases c28 : sw1 = 26
  · have hq := hq.1 c28
    refine k_top c28 ?_
    refine lv_tableIn (tgt := 240) (off := 231) hx hb dX12_tell_9 (by decide) (by decide) (by decide) (by decide) ?_
    refine lv_aload_n hx hb dX12_tell_240 rfl (lv_at hl 0 rfl) ?_
    refine k_cv hW (va_runV (As := []) (rest := []) (k_fix C) (c_X12_goesOn l G h _ hq) (cwV 0 C.2.2.2.2.2.1 (gU_V mw658 mw659 mw660 mw5 mw661) rfl rfl rfl (by decide +kernel) ⟨Nat.le_of_ble_eq_true rfl, Nat.le_of_ble_eq_true rfl⟩) (k_preV hK hW (shM_lt (rfl : shM 0 = 12) (by decide)) (ceM_12 (rfl : shM 0 = 12)) (q := (RX12, TX12, 73)) rfl) rfl rfl hl.1 rfl (lv_room (Nat.le_of_ble_eq_true rfl)) dX12_tell_241 ⟨Nat.le_refl 0, Nat.le_refl 0⟩) (fun h29 H locs hq hW => ?_)
    refine lv_aload_n hx hb dX12_tell_244 rfl (lv_at hl 0 rfl) ?_
    refine gt12_32 C hK hW (rfl : shM 0 = 12) (List.mem_cons_of_mem _ mw282) (fun _ h9 => List.mem_cons_of_mem _ (inU_wsX120 _ h9)) dX12_tell_245 ?_
    refine lv_aload_n hx hb dX12_tell_248 rfl (lv_at hl 0 rfl) ?_
    refine gt12_19 C hK hW (rfl : shM 0 = 12) (List.mem_cons_of_mem _ mw611) (fun _ h9 => List.mem_cons_of_mem _ (inU_wsX120 _ h9)) dX12_tell_249 ?_
    refine lv_aload_n hx hb dX12_tell_252 rfl (lv_at hl 0 rfl) ?_
    refine lv_iconst (v := 1) hx hb dX12_tell_253 (by decide) ?_
    refine lv_iconst (v := 4) hx hb dX12_tell_254 (by decide) ?_
    refine k_ci hW (va_runV (As := [.int 1, .int 4]) (rest := [.int (gI h29 0 19), .ref (G.2.2 19)]) (k_fix C) (c_X12_bounded l G h29 1 4 _ hq) (cwV 2 C.2.2.2.2.2.1 (gU_V mw678 mw679 mw680 mw5 mw681) rfl rfl rfl (by decide +kernel) ⟨Nat.le_of_ble_eq_true rfl, Nat.le_of_ble_eq_true rfl⟩) (k_preV hK hW (shM_lt (rfl : shM 0 = 12) (by decide)) (ceM_12 (rfl : shM 0 = 12)) (q := (RX12, TX12, 73)) rfl) rfl rfl hl.1 rfl (lv_room (Nat.le_of_ble_eq_true rfl)) dX12_tell_255 ⟨Nat.le_refl 0, Nat.le_refl 0⟩) (fun r31 h30 H locs hq hW => ?_)
    refine k_iast okM C hK hW (shM_lt (rfl : shM 19 = 14) (by decide)) (fun g9 => ceM_14 (rfl : shM 19 = 14) (rfl : lnM 19 = 2)) hq.1 dX12_tell_258 (fun H locs hW => ?_)
    have hq := hq.2
    obtain ⟨h32, eh32⟩ : ∃ z : hp, z = sI h30 19 (ix (gI h29 0 19)) r31 := ⟨_, rfl⟩
    rw [← eh32] at hW
    have hq := hq h32 eh32
    refine lv_aload_n hx hb dX12_tell_259 rfl (lv_at hl 0 rfl) ?_
    refine gt12_33 C hK hW (rfl : shM 0 = 12) (List.mem_cons_of_mem _ mw283) (fun _ h9 => List.mem_cons_of_mem _ (inU_wsX120 _ h9)) dX12_tell_260 ?_
    refine lv_aload_n hx hb dX12_tell_263 rfl (lv_at hl 0 rfl) ?_
    refine gt12_19 C hK hW (rfl : shM 0 = 12) (List.mem_cons_of_mem _ mw611) (fun _ h9 => List.mem_cons_of_mem _ (inU_wsX120 _ h9)) dX12_tell_264 ?_
    refine lv_aload_n hx hb dX12_tell_267 rfl (lv_at hl 0 rfl) ?_
    refine lv_iconst (v := 1) hx hb dX12_tell_268 (by decide) ?_
    refine lv_bipush (v := 9) hx hb dX12_tell_269 (by decide) ?_
    refine k_ci hW (va_runV (As := [.int 1, .int 9]) (rest := [.int (gI h32 0 19), .ref (G.2.2 20)]) (k_fix C) (c_X12_bounded l G h32 1 9 _ hq) (cwV 2 C.2.2.2.2.2.1 (gU_V mw678 mw679 mw680 mw5 mw681) rfl rfl rfl (by decide +kernel) ⟨Nat.le_of_ble_eq_true rfl, Nat.le_of_ble_eq_true rfl⟩) (k_preV hK hW (shM_lt (rfl : shM 0 = 12) (by decide)) (ceM_12 (rfl : shM 0 = 12)) (q := (RX12, TX12, 73)) rfl) rfl rfl hl.1 rfl (lv_room (Nat.le_of_ble_eq_true rfl)) dX12_tell_271 ⟨Nat.le_refl 0, Nat.le_refl 0⟩) (fun r34 h33 H locs hq hW => ?_)
    refine k_iast okM C hK hW (shM_lt (rfl : shM 20 = 14) (by decide)) (fun g9 => ceM_14 (rfl : shM 20 = 14) (rfl : lnM 20 = 2)) hq.1 dX12_tell_274 (fun H locs hW => ?_)
    have hq := hq.2
    obtain ⟨h35, eh35⟩ : ∃ z : hp, z = sI h33 20 (ix (gI h32 0 19)) r34 := ⟨_, rfl⟩
    rw [← eh35] at hW
    have hq := hq h35 eh35
    refine lv_aload_n hx hb dX12_tell_275 rfl (lv_at hl 0 rfl) ?_
    refine lv_iconst (v := 4) hx hb dX12_tell_276 (by decide) ?_
    refine k_cv hW (va_runV (As := [.int 4]) (rest := []) (k_fix C) (c_X12_must l G h35 4 _ hq) (cwV 1 C.2.2.2.2.2.1 (gU_V mw670 mw671 mw672 mw5 mw673) rfl rfl rfl (by decide +kernel) ⟨Nat.le_of_ble_eq_true rfl, Nat.le_of_ble_eq_true rfl⟩) (k_preV hK hW (shM_lt (rfl : shM 0 = 12) (by decide)) (ceM_12 (rfl : shM 0 = 12)) (q := (RX12, TX12, 73)) rfl) rfl rfl hl.1 rfl (lv_room (Nat.le_of_ble_eq_true rfl)) dX12_tell_277 ⟨Nat.le_refl 0, Nat.le_refl 0⟩) (fun h36 H locs hq hW => ?_)
    refine lv_goto (tgt := 316) hx hb dX12_tell_280 (by decide) ?_
    exact k_vret rfl C hW dX12_tell_316 hq
  have hq := hq.2
  by_cases c37 : sw1 = 27
  · have hq := hq.1 c37
    refine k_top c37 ?_
    refine lv_tableIn (tgt := 283) (off := 274) hx hb dX12_tell_9 (by decide) (by decide) (by decide) (by decide) ?_
    refine lv_aload_n hx hb dX12_tell_283 rfl (lv_at hl 0 rfl) ?_
    refine k_cv hW (va_runV (As := []) (rest := []) (k_fix C) (c_X12_goesOn l G h _ hq) (cwV 0 C.2.2.2.2.2.1 (gU_V mw658 mw659 mw660 mw5 mw661) rfl rfl rfl (by decide +kernel) ⟨Nat.le_of_ble_eq_true rfl, Nat.le_of_ble_eq_true rfl⟩) (k_preV hK hW (shM_lt (rfl : shM 0 = 12) (by decide)) (ceM_12 (rfl : shM 0 = 12)) (q := (RX12, TX12, 73)) rfl) rfl rfl hl.1 rfl (lv_room (Nat.le_of_ble_eq_true rfl)) dX12_tell_284 ⟨Nat.le_refl 0, Nat.le_refl 0⟩) (fun h38 H locs hq hW => ?_)
    refine lv_aload_n hx hb dX12_tell_287 rfl (lv_at hl 0 rfl) ?_
    refine gt12_34 C hK hW (rfl : shM 0 = 12) (List.mem_cons_of_mem _ mw284) (fun _ h9 => List.mem_cons_of_mem _ (inU_wsX120 _ h9)) dX12_tell_288 ?_
    refine lv_aload_n hx hb dX12_tell_291 rfl (lv_at hl 0 rfl) ?_
    refine gt12_19 C hK hW (rfl : shM 0 = 12) (List.mem_cons_of_mem _ mw611) (fun _ h9 => List.mem_cons_of_mem _ (inU_wsX120 _ h9)) dX12_tell_292 ?_
    refine lv_aload_n hx hb dX12_tell_295 rfl (lv_at hl 0 rfl) ?_
    refine lv_iconst (v := 0) hx hb dX12_tell_296 (by decide) ?_
    refine lv_bipush (v := 9) hx hb dX12_tell_297 (by decide) ?_
    refine k_ci hW (va_runV (As := [.int 0, .int 9]) (rest := [.int (gI h38 0 19), .ref (G.2.2 21)]) (k_fix C) (c_X12_bounded l G h38 0 9 _ hq) (cwV 2 C.2.2.2.2.2.1 (gU_V mw678 mw679 mw680 mw5 mw681) rfl rfl rfl (by decide +kernel) ⟨Nat.le_of_ble_eq_true rfl, Nat.le_of_ble_eq_true rfl⟩) (k_preV hK hW (shM_lt (rfl : shM 0 = 12) (by decide)) (ceM_12 (rfl : shM 0 = 12)) (q := (RX12, TX12, 73)) rfl) rfl rfl hl.1 rfl (lv_room (Nat.le_of_ble_eq_true rfl)) dX12_tell_299 ⟨Nat.le_refl 0, Nat.le_refl 0⟩) (fun r40 h39 H locs hq hW => ?_)
    refine k_iast okM C hK hW (shM_lt (rfl : shM 21 = 14) (by decide)) (fun g9 => ceM_14 (rfl : shM 21 = 14) (rfl : lnM 21 = 2)) hq.1 dX12_tell_302 (fun H locs hW => ?_)
    have hq := hq.2
    obtain ⟨h41, eh41⟩ : ∃ z : hp, z = sI h39 21 (ix (gI h38 0 19)) r40 := ⟨_, rfl⟩
    rw [← eh41] at hW
    have hq := hq h41 eh41
    refine lv_aload_n hx hb dX12_tell_303 rfl (lv_at hl 0 rfl) ?_
    refine lv_iconst (v := 4) hx hb dX12_tell_304 (by decide) ?_
    refine k_cv hW (va_runV (As := [.int 4]) (rest := []) (k_fix C) (c_X12_must l G h41 4 _ hq) (cwV 1 C.2.2.2.2.2.1 (gU_V mw670 mw671 mw672 mw5 mw673) rfl rfl rfl (by decide +kernel) ⟨Nat.le_of_ble_eq_true rfl, Nat.le_of_ble_eq_true rfl⟩) (k_preV hK hW (shM_lt (rfl : shM 0 = 12) (by decide)) (ceM_12 (rfl : shM 0 = 12)) (q := (RX12, TX12, 73)) rfl) rfl rfl hl.1 rfl (lv_room (Nat.le_of_ble_eq_true rfl)) dX12_tell_305 ⟨Nat.le_refl 0, Nat.le_refl 0⟩) (fun h42 H locs hq hW => ?_)
    refine lv_goto (tgt := 316) hx hb dX12_tell_308 (by decide) ?_
    exact k_vret rfl C hW dX12_tell_316 hq
  have hq := hq.2
  have c43 : sw1.toInt < 20 ∨ 27 < sw1.toInt := by
    rcases Int.lt_or_le sw1.toInt 20 with q | q
    · exact Or.inl q
    · refine Or.inr (Int.not_le.mp fun q2 => ?_)
      have q3 : sw1 = Int32.ofInt sw1.toInt := (Int32.ofInt_toInt sw1).symm
      have q4 : sw1.toInt = 20 ∨ sw1.toInt = 21 ∨ sw1.toInt = 22 ∨ sw1.toInt = 23 ∨ sw1.toInt = 24 ∨ sw1.toInt = 25 ∨ sw1.toInt = 26 ∨ sw1.toInt = 27 := by omega
      rcases q4 with q4 | q4 | q4 | q4 | q4 | q4 | q4 | q4 <;> rw [q4] at q3 <;> simp_all
  refine lv_tableOut (tgt := 311) hx hb dX12_tell_9 c43 (by decide) ?_
  have hq := hq c43
  refine lv_aload_n hx hb dX12_tell_311 rfl (lv_at hl 0 rfl) ?_
  refine lv_iconst (v := 1) hx hb dX12_tell_312 (by decide) ?_
  refine k_cv hW (va_runV (As := [.int 1]) (rest := []) (k_fix C) (c_X12_fail l G h 1 _ hq) (cwV 1 C.2.2.2.2.2.1 (gU_V mw654 mw655 mw656 mw5 mw657) rfl rfl rfl (by decide +kernel) ⟨Nat.le_of_ble_eq_true rfl, Nat.le_of_ble_eq_true rfl⟩) (k_preV hK hW (shM_lt (rfl : shM 0 = 12) (by decide)) (ceM_12 (rfl : shM 0 = 12)) (q := (RX12, TX12, 73)) rfl) rfl rfl hl.1 rfl (lv_room (Nat.le_of_ble_eq_true rfl)) dX12_tell_313 ⟨Nat.le_refl 0, Nat.le_refl 0⟩) (fun h44 H locs hq hW => ?_)
  exact k_vret rfl C hW dX12_tell_316 hq
theorem c_X12_tell (l : Launch) (G : wG) (h : hp) (Q : hp → Prop) (hq : w_X12_tell h Q) : ctV l SM G yX12_tell wUX12_tell rmX12_tell h [.ref (G.2.2 0)] Q := by
  refine k_start (cc := cX12_tell) (maxL := 1) (rt := none) (own := RX12) (by decide +kernel) rfl rfl (Nat.le_of_ble_eq_true rfl) ?_
  intro p e s m below meth c ls C hK hW hl
  exact k_X12_tell_0 C hK hW hl hq
theorem k_X12_read_b297 {Q : Int32 → hp → Prop} {X297 : Int32 × hp → Prop} (C : kC p s m args meth c cX12_read 2 (some .int) RX12 wUX12_read) (hK : kK G s) (hX297 : ∀ (x1 : Int32) (h : hp) (H : Heap) (locs : List Loc) (ls : Array Slot), kW SM G h (aS SM G) s H locs → lv_has ls 2 [(0, .ref (G.2.2 0)), (1, .int x1)] → X297 (x1, h) → W p l e rmX12_read s m args below meth c H locs 0 0 (MQ below (va_Qi Q (kB SM G) (aS SM G)) args s 0 0 (aS SM G)) (F0 m 297 ls [])) {x1 : Int32} {h : hp} {H : Heap} {locs : List Loc} {ls : Array Slot} (hW : kW SM G h (aS SM G) s H locs) (hl : lv_has ls 2 [(0, .ref (G.2.2 0)), (1, .int x1)]) (hq : w_X12_read_b297 Q X297 x1 h) : W p l e rmX12_read s m args below meth c H locs 0 0 (MQ below (va_Qi Q (kB SM G) (aS SM G)) args s 0 0 (aS SM G)) (F0 m 297 ls []) := by
  have hx := C.1
  have hb := C.2.1
  unfold w_X12_read_b297 at hq
  refine lv_iload_n hx hb dX12_read_297 rfl (lv_at hl 1 rfl) ?_
  refine lv_iconst (v := 3) hx hb dX12_read_298 (by decide) ?_
  refine lv_icmp_ge (tgt := 315) hx hb dX12_read_299 (by decide) (fun c37 => ?_) (fun c37 => ?_)
  · have hq := hq.1 c37
    refine lv_iconst (v := 0) hx hb dX12_read_315 (by decide) ?_
    exact k_iret rfl C hW dX12_read_316 hq
  · have hq := hq.2 c37
    refine lv_aload_n hx hb dX12_read_302 rfl (lv_at hl 0 rfl) ?_
    refine gt12_69 C hK hW (rfl : shM 0 = 12) (List.mem_cons_of_mem _ mw311) (fun _ h9 => List.mem_cons_of_mem _ (inU_wsX120 _ h9)) dX12_read_303 ?_
    refine lv_iload_n hx hb dX12_read_306 rfl (lv_at hl 1 rfl) ?_
    refine lv_iconst (v := 0) hx hb dX12_read_307 (by decide) ?_
    refine k_zast okM C hK hW (shM_lt (rfl : shM 45 = 16) (by decide)) (fun g9 => ceM_16 (rfl : shM 45 = 16) (rfl : lnM 45 = 3)) hq.1 dX12_read_308 (fun H locs hW => ?_)
    have hq := hq.2
    obtain ⟨h38, eh38⟩ : ∃ z : hp, z = sI h 45 (ix x1) (jz 0) := ⟨_, rfl⟩
    rw [← eh38] at hW
    have hq := hq h38 eh38
    obtain ⟨x1_39, ex1_39⟩ : ∃ y : Int32, y = x1 + 1 := ⟨_, rfl⟩
    have hq := hq x1_39 ex1_39
    refine lv_iinc (v := x1_39) (lv' := [(1, .int x1_39), (0, .ref (G.2.2 0))]) hx hb dX12_read_309 hl (k := 1) rfl (by rw [ex1_39]; rfl) (by decide) rfl (fun ls hl => ?_)
    refine lv_goto (tgt := 297) hx hb dX12_read_312 (by decide) ?_
    exact hX297 _ _ _ _ _ hW (lv_sub hl [1, 0] rfl) hq
theorem k_X12_read_297 {Q : Int32 → hp → Prop} (C : kC p s m args meth c cX12_read 2 (some .int) RX12 wUX12_read) (hK : kK G s) {x1 : Int32} {h : hp} {H : Heap} {locs : List Loc} {ls : Array Slot} (hW : kW SM G h (aS SM G) s H locs) (hl : lv_has ls 2 [(0, .ref (G.2.2 0)), (1, .int x1)]) (hq : w_X12_read_297 Q x1 h) : W p l e rmX12_read s m args below meth c H locs 0 0 (MQ below (va_Qi Q (kB SM G) (aS SM G)) args s 0 0 (aS SM G)) (F0 m 297 ls []) := by
  have key := hq (fun (q : Int32 × hp) => ∀ (H : Heap) (locs : List Loc) (ls : Array Slot), kW SM G q.2 (aS SM G) s H locs → lv_has ls 2 [(0, .ref (G.2.2 0)), (1, .int q.1)] → W p l e rmX12_read s m args below meth c H locs 0 0 (MQ below (va_Qi Q (kB SM G) (aS SM G)) args s 0 0 (aS SM G)) (F0 m 297 ls []))
    (fun q hq H locs ls hW hl => k_X12_read_b297 C hK (fun x1 h H locs ls hW hl hI => hI H locs ls hW hl) hW hl hq)
  exact key _ _ _ hW hl
theorem k_X12_read_245 {Q : Int32 → hp → Prop} {h : hp} {s0 : Int32} (C : kC p s m args meth c cX12_read 2 (some .int) RX12 wUX12_read) (hK : kK G s) {H : Heap} {locs : List Loc} {ls : Array Slot} (hW : kW SM G h (aS SM G) s H locs) (hl : lv_has ls 2 [(0, .ref (G.2.2 0))]) (hq : w_X12_read_245 Q h s0) : W p l e rmX12_read s m args below meth c H locs 0 0 (MQ below (va_Qi Q (kB SM G) (aS SM G)) args s 0 0 (aS SM G)) (F0 m 245 ls [.int s0, .ref (G.2.2 0)]) := by
  have hx := C.1
  have hb := C.2.1
  unfold w_X12_read_245 at hq
  refine pt12_17 C hK hW (rfl : shM 0 = 12) (List.mem_cons_of_mem _ mw270) (fun _ h9 => List.mem_cons_of_mem _ (inU_wsX120 _ h9)) dX12_read_245 (fun h30 H locs eh30 hW => ?_)
  have hq := hq h30 eh30
  refine lv_aload_n hx hb dX12_read_248 rfl (lv_at hl 0 rfl) ?_
  refine gt12_13 C hK hW (rfl : shM 0 = 12) (List.mem_cons_of_mem _ mw608) (fun _ h9 => List.mem_cons_of_mem _ (inU_wsX120 _ h9)) dX12_read_249 ?_
  refine lv_if_le (tgt := 260) hx hb dX12_read_252 (by decide) (fun c31 => ?_) (fun c31 => ?_)
  · have hq := hq.1 c31
    refine lv_aload_n hx hb dX12_read_260 rfl (lv_at hl 0 rfl) ?_
    refine gt12_15 C hK hW (rfl : shM 0 = 12) (List.mem_cons_of_mem _ mw609) (fun _ h9 => List.mem_cons_of_mem _ (inU_wsX120 _ h9)) dX12_read_261 ?_
    refine lv_if_le (tgt := 272) hx hb dX12_read_264 (by decide) (fun c32 => ?_) (fun c32 => ?_)
    · have hq := hq.1 c32
      refine lv_aload_n hx hb dX12_read_272 rfl (lv_at hl 0 rfl) ?_
      refine lv_aload_n hx hb dX12_read_273 rfl (lv_at hl 0 rfl) ?_
      refine gt12_19 C hK hW (rfl : shM 0 = 12) (List.mem_cons_of_mem _ mw611) (fun _ h9 => List.mem_cons_of_mem _ (inU_wsX120 _ h9)) dX12_read_274 ?_
      refine pt12_18 C hK hW (rfl : shM 0 = 12) (List.mem_cons_of_mem _ mw610) (fun _ h9 => List.mem_cons_of_mem _ (inU_wsX120 _ h9)) dX12_read_277 (fun h33 H locs eh33 hW => ?_)
      have hq := hq h33 eh33
      refine lv_aload_n hx hb dX12_read_280 rfl (lv_at hl 0 rfl) ?_
      refine lv_iconst (v := 0) hx hb dX12_read_281 (by decide) ?_
      refine pt12_57 C hK hW (rfl : shM 0 = 12) (List.mem_cons_of_mem _ mw617) (fun _ h9 => List.mem_cons_of_mem _ (inU_wsX120 _ h9)) dX12_read_282 (fun h34 H locs eh34 hW => ?_)
      have hq := hq h34 eh34
      refine lv_aload_n hx hb dX12_read_285 rfl (lv_at hl 0 rfl) ?_
      refine lv_iconst (v := (-1)) hx hb dX12_read_286 (by decide) ?_
      refine pt12_61 C hK hW (rfl : shM 0 = 12) (List.mem_cons_of_mem _ mw306) (fun _ h9 => List.mem_cons_of_mem _ (inU_wsX120 _ h9)) dX12_read_287 (fun h35 H locs eh35 hW => ?_)
      have hq := hq h35 eh35
      refine lv_aload_n hx hb dX12_read_290 rfl (lv_at hl 0 rfl) ?_
      refine lv_iconst (v := 0) hx hb dX12_read_291 (by decide) ?_
      refine pt12_62 C hK hW (rfl : shM 0 = 12) (List.mem_cons_of_mem _ mw618) (fun _ h9 => List.mem_cons_of_mem _ (inU_wsX120 _ h9)) dX12_read_292 (fun h36 H locs eh36 hW => ?_)
      have hq := hq h36 eh36
      refine lv_iconst (v := 0) hx hb dX12_read_295 (by decide) ?_
      refine lv_istore_n (lv' := [(1, .int 0), (0, .ref (G.2.2 0))]) hx hb dX12_read_296 rfl hl (by decide) rfl (fun ls hl => ?_)
      exact k_X12_read_297 C hK hW (lv_sub hl [1, 0] rfl) hq
    · have hq := hq.2 c32
      refine lv_aload_n hx hb dX12_read_267 rfl (lv_at hl 0 rfl) ?_
      refine gt12_15 C hK hW (rfl : shM 0 = 12) (List.mem_cons_of_mem _ mw609) (fun _ h9 => List.mem_cons_of_mem _ (inU_wsX120 _ h9)) dX12_read_268 ?_
      exact k_iret rfl C hW dX12_read_271 hq
  · have hq := hq.2 c31
    refine lv_aload_n hx hb dX12_read_255 rfl (lv_at hl 0 rfl) ?_
    refine gt12_13 C hK hW (rfl : shM 0 = 12) (List.mem_cons_of_mem _ mw608) (fun _ h9 => List.mem_cons_of_mem _ (inU_wsX120 _ h9)) dX12_read_256 ?_
    exact k_iret rfl C hW dX12_read_259 hq
theorem k_X12_read_215 {Q : Int32 → hp → Prop} {h : hp} (C : kC p s m args meth c cX12_read 2 (some .int) RX12 wUX12_read) (hK : kK G s) {H : Heap} {locs : List Loc} {ls : Array Slot} (hW : kW SM G h (aS SM G) s H locs) (hl : lv_has ls 2 [(0, .ref (G.2.2 0))]) (hq : w_X12_read_215 Q h) : W p l e rmX12_read s m args below meth c H locs 0 0 (MQ below (va_Qi Q (kB SM G) (aS SM G)) args s 0 0 (aS SM G)) (F0 m 215 ls []) := by
  have hx := C.1
  have hb := C.2.1
  unfold w_X12_read_215 at hq
  refine lv_aload_n hx hb dX12_read_215 rfl (lv_at hl 0 rfl) ?_
  refine lv_aload_n hx hb dX12_read_216 rfl (lv_at hl 0 rfl) ?_
  refine gt12_13 C hK hW (rfl : shM 0 = 12) (List.mem_cons_of_mem _ mw608) (fun _ h9 => List.mem_cons_of_mem _ (inU_wsX120 _ h9)) dX12_read_217 ?_
  refine lv_if_le (tgt := 230) hx hb dX12_read_220 (by decide) (fun c28 => ?_) (fun c28 => ?_)
  · have hq := hq.1 c28
    refine lv_aload_n hx hb dX12_read_230 rfl (lv_at hl 0 rfl) ?_
    refine gt12_15 C hK hW (rfl : shM 0 = 12) (List.mem_cons_of_mem _ mw609) (fun _ h9 => List.mem_cons_of_mem _ (inU_wsX120 _ h9)) dX12_read_231 ?_
    refine lv_if_le (tgt := 244) hx hb dX12_read_234 (by decide) (fun c29 => ?_) (fun c29 => ?_)
    · have hq := hq.1 c29
      refine lv_iconst (v := (-1)) hx hb dX12_read_244 (by decide) ?_
      exact k_X12_read_245 C hK hW (lv_sub hl [0] rfl) hq
    · have hq := hq.2 c29
      refine lv_aload_n hx hb dX12_read_237 rfl (lv_at hl 0 rfl) ?_
      refine gt12_16 C hK hW (rfl : shM 0 = 12) (List.mem_cons_of_mem _ mw616) (fun _ h9 => List.mem_cons_of_mem _ (inU_wsX120 _ h9)) dX12_read_238 ?_
      refine lv_goto (tgt := 245) hx hb dX12_read_241 (by decide) ?_
      exact k_X12_read_245 C hK hW (lv_sub hl [0] rfl) hq
  · have hq := hq.2 c28
    refine lv_aload_n hx hb dX12_read_223 rfl (lv_at hl 0 rfl) ?_
    refine gt12_14 C hK hW (rfl : shM 0 = 12) (List.mem_cons_of_mem _ mw615) (fun _ h9 => List.mem_cons_of_mem _ (inU_wsX120 _ h9)) dX12_read_224 ?_
    refine lv_goto (tgt := 245) hx hb dX12_read_227 (by decide) ?_
    exact k_X12_read_245 C hK hW (lv_sub hl [0] rfl) hq
theorem k_X12_read_b136 {Q : Int32 → hp → Prop} {X136 : Int32 × hp → Prop} (C : kC p s m args meth c cX12_read 2 (some .int) RX12 wUX12_read) (hK : kK G s) (hX136 : ∀ (x1 : Int32) (h : hp) (H : Heap) (locs : List Loc) (ls : Array Slot), kW SM G h (aS SM G) s H locs → lv_has ls 2 [(0, .ref (G.2.2 0)), (1, .int x1)] → X136 (x1, h) → W p l e rmX12_read s m args below meth c H locs 0 0 (MQ below (va_Qi Q (kB SM G) (aS SM G)) args s 0 0 (aS SM G)) (F0 m 136 ls [])) {x1 : Int32} {h : hp} {H : Heap} {locs : List Loc} {ls : Array Slot} (hW : kW SM G h (aS SM G) s H locs) (hl : lv_has ls 2 [(0, .ref (G.2.2 0)), (1, .int x1)]) (hq : w_X12_read_b136 Q X136 x1 h) : W p l e rmX12_read s m args below meth c H locs 0 0 (MQ below (va_Qi Q (kB SM G) (aS SM G)) args s 0 0 (aS SM G)) (F0 m 136 ls []) := by
  have hx := C.1
  have hb := C.2.1
  unfold w_X12_read_b136 at hq
  refine lv_iload_n hx hb dX12_read_136 rfl (lv_at hl 1 rfl) ?_
  refine lv_aload_n hx hb dX12_read_137 rfl (lv_at hl 0 rfl) ?_
  refine gt12_26 C hK hW (rfl : shM 0 = 12) (List.mem_cons_of_mem _ mw276) (fun _ h9 => List.mem_cons_of_mem _ (inU_wsX120 _ h9)) dX12_read_138 ?_
  refine lv_aload_n hx hb dX12_read_141 rfl (lv_at hl 0 rfl) ?_
  refine gt12_19 C hK hW (rfl : shM 0 = 12) (List.mem_cons_of_mem _ mw611) (fun _ h9 => List.mem_cons_of_mem _ (inU_wsX120 _ h9)) dX12_read_142 ?_
  refine k_iald C hK hW (shM_lt (rfl : shM 13 = 14) (by decide)) (ceM_14 (rfl : shM 13 = 14) (rfl : lnM 13 = 2)) hq.1 dX12_read_145 ?_
  have hq := hq.2
  refine lv_icmp_ge (tgt := 215) hx hb dX12_read_146 (by decide) (fun c21 => ?_) (fun c21 => ?_)
  · have hq := hq.1 c21
    exact k_X12_read_215 C hK hW (lv_sub hl [0] rfl) hq
  · have hq := hq.2 c21
    refine lv_aload_n hx hb dX12_read_149 rfl (lv_at hl 0 rfl) ?_
    refine gt12_13 C hK hW (rfl : shM 0 = 12) (List.mem_cons_of_mem _ mw608) (fun _ h9 => List.mem_cons_of_mem _ (inU_wsX120 _ h9)) dX12_read_150 ?_
    refine lv_if_ne (tgt := 215) hx hb dX12_read_153 (by decide) (fun c22 => ?_) (fun c22 => ?_)
    · have hq := hq.1 c22
      exact k_X12_read_215 C hK hW (lv_sub hl [0] rfl) hq
    · have hq := hq.2 c22
      refine lv_aload_n hx hb dX12_read_156 rfl (lv_at hl 0 rfl) ?_
      refine gt12_15 C hK hW (rfl : shM 0 = 12) (List.mem_cons_of_mem _ mw609) (fun _ h9 => List.mem_cons_of_mem _ (inU_wsX120 _ h9)) dX12_read_157 ?_
      refine lv_if_ne (tgt := 215) hx hb dX12_read_160 (by decide) (fun c23 => ?_) (fun c23 => ?_)
      · have hq := hq.1 c23
        exact k_X12_read_215 C hK hW (lv_sub hl [0] rfl) hq
      · have hq := hq.2 c23
        refine lv_aload_n hx hb dX12_read_163 rfl (lv_at hl 0 rfl) ?_
        refine gt12_27 C hK hW (rfl : shM 0 = 12) (List.mem_cons_of_mem _ mw277) (fun _ h9 => List.mem_cons_of_mem _ (inU_wsX120 _ h9)) dX12_read_164 ?_
        refine lv_bipush (v := 8) hx hb dX12_read_167 (by decide) ?_
        refine lv_aload_n hx hb dX12_read_169 rfl (lv_at hl 0 rfl) ?_
        refine gt12_19 C hK hW (rfl : shM 0 = 12) (List.mem_cons_of_mem _ mw611) (fun _ h9 => List.mem_cons_of_mem _ (inU_wsX120 _ h9)) dX12_read_170 ?_
        refine lv_imul hx hb dX12_read_173 ?_
        refine lv_iload_n hx hb dX12_read_174 rfl (lv_at hl 1 rfl) ?_
        refine lv_iadd hx hb dX12_read_175 ?_
        refine k_iald C hK hW (shM_lt (rfl : shM 14 = 14) (by decide)) (ceM_14 (rfl : shM 14 = 14) (rfl : lnM 14 = 16)) hq.1 dX12_read_176 ?_
        have hq := hq.2
        refine lv_aload_n hx hb dX12_read_177 rfl (lv_at hl 0 rfl) ?_
        refine gt12_25 C hK hW (rfl : shM 0 = 12) (List.mem_cons_of_mem _ mw275) (fun _ h9 => List.mem_cons_of_mem _ (inU_wsX120 _ h9)) dX12_read_178 ?_
        refine lv_aload_n hx hb dX12_read_181 rfl (lv_at hl 0 rfl) ?_
        refine gt12_19 C hK hW (rfl : shM 0 = 12) (List.mem_cons_of_mem _ mw611) (fun _ h9 => List.mem_cons_of_mem _ (inU_wsX120 _ h9)) dX12_read_182 ?_
        refine k_iald C hK hW (shM_lt (rfl : shM 12 = 14) (by decide)) (ceM_14 (rfl : shM 12 = 14) (rfl : lnM 12 = 2)) hq.1 dX12_read_185 ?_
        have hq := hq.2
        refine lv_icmp_lt (tgt := 209) hx hb dX12_read_186 (by decide) (fun c24 => ?_) (fun c24 => ?_)
        · have hq := hq.1 c24
          obtain ⟨x1_25, ex1_25⟩ : ∃ y : Int32, y = x1 + 1 := ⟨_, rfl⟩
          have hq := hq x1_25 ex1_25
          refine lv_iinc (v := x1_25) (lv' := [(1, .int x1_25), (0, .ref (G.2.2 0))]) hx hb dX12_read_209 hl (k := 1) rfl (by rw [ex1_25]; rfl) (by decide) rfl (fun ls hl => ?_)
          refine lv_goto (tgt := 136) hx hb dX12_read_212 (by decide) ?_
          exact hX136 _ _ _ _ _ hW (lv_sub hl [1, 0] rfl) hq
        · have hq := hq.2 c24
          refine lv_aload_n hx hb dX12_read_189 rfl (lv_at hl 0 rfl) ?_
          refine lv_bipush (v := 6) hx hb dX12_read_190 (by decide) ?_
          refine lv_aload_n hx hb dX12_read_192 rfl (lv_at hl 0 rfl) ?_
          refine gt12_29 C hK hW (rfl : shM 0 = 12) (List.mem_cons_of_mem _ mw279) (fun _ h9 => List.mem_cons_of_mem _ (inU_wsX120 _ h9)) dX12_read_193 ?_
          refine lv_bipush (v := 8) hx hb dX12_read_196 (by decide) ?_
          refine lv_aload_n hx hb dX12_read_198 rfl (lv_at hl 0 rfl) ?_
          refine gt12_19 C hK hW (rfl : shM 0 = 12) (List.mem_cons_of_mem _ mw611) (fun _ h9 => List.mem_cons_of_mem _ (inU_wsX120 _ h9)) dX12_read_199 ?_
          refine lv_imul hx hb dX12_read_202 ?_
          refine lv_iload_n hx hb dX12_read_203 rfl (lv_at hl 1 rfl) ?_
          refine lv_iadd hx hb dX12_read_204 ?_
          refine k_iald C hK hW (shM_lt (rfl : shM 16 = 14) (by decide)) (ceM_14 (rfl : shM 16 = 14) (rfl : lnM 16 = 16)) hq.1 dX12_read_205 ?_
          have hq := hq.2
          refine k_cv hW (va_runV (As := [.int 6, .int (gI h 16 (ix ((8 * (gI h 0 19)) + x1)))]) (rest := []) (k_fix C) (c_X12_amiss l G h 6 (gI h 16 (ix ((8 * (gI h 0 19)) + x1))) _ hq) (cwV 2 C.2.2.2.2.2.1 (gU_V mw674 mw675 mw676 mw5 mw677) rfl rfl rfl (by decide +kernel) ⟨Nat.le_of_ble_eq_true rfl, Nat.le_of_ble_eq_true rfl⟩) (k_preV hK hW (shM_lt (rfl : shM 0 = 12) (by decide)) (ceM_12 (rfl : shM 0 = 12)) (q := (RX12, TX12, 73)) rfl) rfl rfl hl.1 rfl (lv_room (Nat.le_of_ble_eq_true rfl)) dX12_read_206 ⟨Nat.le_refl 0, Nat.le_refl 0⟩) (fun h26 H locs hq hW => ?_)
          obtain ⟨x1_27, ex1_27⟩ : ∃ y : Int32, y = x1 + 1 := ⟨_, rfl⟩
          have hq := hq x1_27 ex1_27
          refine lv_iinc (v := x1_27) (lv' := [(1, .int x1_27), (0, .ref (G.2.2 0))]) hx hb dX12_read_209 hl (k := 1) rfl (by rw [ex1_27]; rfl) (by decide) rfl (fun ls hl => ?_)
          refine lv_goto (tgt := 136) hx hb dX12_read_212 (by decide) ?_
          exact hX136 _ _ _ _ _ hW (lv_sub hl [1, 0] rfl) hq
theorem k_X12_read_136 {Q : Int32 → hp → Prop} (C : kC p s m args meth c cX12_read 2 (some .int) RX12 wUX12_read) (hK : kK G s) {x1 : Int32} {h : hp} {H : Heap} {locs : List Loc} {ls : Array Slot} (hW : kW SM G h (aS SM G) s H locs) (hl : lv_has ls 2 [(0, .ref (G.2.2 0)), (1, .int x1)]) (hq : w_X12_read_136 Q x1 h) : W p l e rmX12_read s m args below meth c H locs 0 0 (MQ below (va_Qi Q (kB SM G) (aS SM G)) args s 0 0 (aS SM G)) (F0 m 136 ls []) := by
  have key := hq (fun (q : Int32 × hp) => ∀ (H : Heap) (locs : List Loc) (ls : Array Slot), kW SM G q.2 (aS SM G) s H locs → lv_has ls 2 [(0, .ref (G.2.2 0)), (1, .int q.1)] → W p l e rmX12_read s m args below meth c H locs 0 0 (MQ below (va_Qi Q (kB SM G) (aS SM G)) args s 0 0 (aS SM G)) (F0 m 136 ls []))
    (fun q hq H locs ls hW hl => k_X12_read_b136 C hK (fun x1 h H locs ls hW hl hI => hI H locs ls hW hl) hW hl hq)
  exact key _ _ _ hW hl
theorem k_X12_read_b112 {Q : Int32 → hp → Prop} {X112 : hp → Prop} (C : kC p s m args meth c cX12_read 2 (some .int) RX12 wUX12_read) (hK : kK G s) (hX112 : ∀ (h : hp) (H : Heap) (locs : List Loc) (ls : Array Slot), kW SM G h (aS SM G) s H locs → lv_has ls 2 [(0, .ref (G.2.2 0))] → X112 h → W p l e rmX12_read s m args below meth c H locs 0 0 (MQ below (va_Qi Q (kB SM G) (aS SM G)) args s 0 0 (aS SM G)) (F0 m 112 ls [])) {h : hp} {H : Heap} {locs : List Loc} {ls : Array Slot} (hW : kW SM G h (aS SM G) s H locs) (hl : lv_has ls 2 [(0, .ref (G.2.2 0))]) (hq : w_X12_read_b112 Q X112 h) : W p l e rmX12_read s m args below meth c H locs 0 0 (MQ below (va_Qi Q (kB SM G) (aS SM G)) args s 0 0 (aS SM G)) (F0 m 112 ls []) := by
  have hx := C.1
  have hb := C.2.1
  unfold w_X12_read_b112 at hq
  refine lv_aload_n hx hb dX12_read_112 rfl (lv_at hl 0 rfl) ?_
  refine gt12_13 C hK hW (rfl : shM 0 = 12) (List.mem_cons_of_mem _ mw608) (fun _ h9 => List.mem_cons_of_mem _ (inU_wsX120 _ h9)) dX12_read_113 ?_
  refine lv_if_ne (tgt := 134) hx hb dX12_read_116 (by decide) (fun c16 => ?_) (fun c16 => ?_)
  · have hq := hq.1 c16
    refine lv_iconst (v := 0) hx hb dX12_read_134 (by decide) ?_
    refine lv_istore_n (lv' := [(1, .int 0), (0, .ref (G.2.2 0))]) hx hb dX12_read_135 rfl hl (by decide) rfl (fun ls hl => ?_)
    exact k_X12_read_136 C hK hW (lv_sub hl [1, 0] rfl) hq
  · have hq := hq.2 c16
    refine lv_aload_n hx hb dX12_read_119 rfl (lv_at hl 0 rfl) ?_
    refine lv_iconst (v := 0) hx hb dX12_read_120 (by decide) ?_
    refine k_ci hW (va_runV (As := [.int 0]) (rest := []) (k_fix C) (c_X12_is l G h 0 _ hq) (cwV 1 C.2.2.2.2.2.1 (gU_V mw642 mw643 mw644 mw5 mw645) rfl rfl rfl (by decide +kernel) ⟨Nat.le_of_ble_eq_true rfl, Nat.le_of_ble_eq_true rfl⟩) (k_preV hK hW (shM_lt (rfl : shM 0 = 12) (by decide)) (ceM_12 (rfl : shM 0 = 12)) (q := (RX12, TX12, 73)) rfl) rfl rfl hl.1 rfl (lv_room (Nat.le_of_ble_eq_true rfl)) dX12_read_121 ⟨Nat.le_refl 0, Nat.le_refl 0⟩) (fun r17 h18 H locs hq hW => ?_)
    rw [hq.1] at hW
    have hq := hq.2
    refine lv_if_ne (tgt := 134) hx hb dX12_read_124 (by decide) (fun c19 => ?_) (fun c19 => ?_)
    · have hq := hq.1 c19
      refine lv_iconst (v := 0) hx hb dX12_read_134 (by decide) ?_
      refine lv_istore_n (lv' := [(1, .int 0), (0, .ref (G.2.2 0))]) hx hb dX12_read_135 rfl hl (by decide) rfl (fun ls hl => ?_)
      exact k_X12_read_136 C hK hW (lv_sub hl [1, 0] rfl) hq
    · have hq := hq.2 c19
      refine lv_aload_n hx hb dX12_read_127 rfl (lv_at hl 0 rfl) ?_
      refine k_cv hW (va_runV (As := []) (rest := []) (k_fix C) (c_X12_tell l G h _ hq) (cwV 0 C.2.2.2.2.2.1 (gU_V mw646 mw647 mw648 mw5 mw649) rfl rfl rfl (by decide +kernel) ⟨Nat.le_of_ble_eq_true rfl, Nat.le_of_ble_eq_true rfl⟩) (k_preV hK hW (shM_lt (rfl : shM 0 = 12) (by decide)) (ceM_12 (rfl : shM 0 = 12)) (q := (RX12, TX12, 73)) rfl) rfl rfl hl.1 rfl (lv_room (Nat.le_of_ble_eq_true rfl)) dX12_read_128 ⟨Nat.le_refl 0, Nat.le_refl 0⟩) (fun h20 H locs hq hW => ?_)
      refine lv_goto (tgt := 112) hx hb dX12_read_131 (by decide) ?_
      exact hX112 _ _ _ _ hW (lv_sub hl [0] rfl) hq
theorem k_X12_read_112 {Q : Int32 → hp → Prop} (C : kC p s m args meth c cX12_read 2 (some .int) RX12 wUX12_read) (hK : kK G s) {h : hp} {H : Heap} {locs : List Loc} {ls : Array Slot} (hW : kW SM G h (aS SM G) s H locs) (hl : lv_has ls 2 [(0, .ref (G.2.2 0))]) (hq : w_X12_read_112 Q h) : W p l e rmX12_read s m args below meth c H locs 0 0 (MQ below (va_Qi Q (kB SM G) (aS SM G)) args s 0 0 (aS SM G)) (F0 m 112 ls []) := by
  have key := hq (fun (q : hp) => ∀ (H : Heap) (locs : List Loc) (ls : Array Slot), kW SM G q (aS SM G) s H locs → lv_has ls 2 [(0, .ref (G.2.2 0))] → W p l e rmX12_read s m args below meth c H locs 0 0 (MQ below (va_Qi Q (kB SM G) (aS SM G)) args s 0 0 (aS SM G)) (F0 m 112 ls []))
    (fun q hq H locs ls hW hl => k_X12_read_b112 C hK (fun h H locs ls hW hl hI => hI H locs ls hW hl) hW hl hq)
  exact key _ _ _ hW hl
theorem k_X12_read_b10 {Q : Int32 → hp → Prop} {X10 : Int32 × hp → Prop} (C : kC p s m args meth c cX12_read 2 (some .int) RX12 wUX12_read) (hK : kK G s) (hX10 : ∀ (x1 : Int32) (h : hp) (H : Heap) (locs : List Loc) (ls : Array Slot), kW SM G h (aS SM G) s H locs → lv_has ls 2 [(0, .ref (G.2.2 0)), (1, .int x1)] → X10 (x1, h) → W p l e rmX12_read s m args below meth c H locs 0 0 (MQ below (va_Qi Q (kB SM G) (aS SM G)) args s 0 0 (aS SM G)) (F0 m 10 ls [])) {x1 : Int32} {h : hp} {H : Heap} {locs : List Loc} {ls : Array Slot} (hW : kW SM G h (aS SM G) s H locs) (hl : lv_has ls 2 [(0, .ref (G.2.2 0)), (1, .int x1)]) (hq : w_X12_read_b10 Q X10 x1 h) : W p l e rmX12_read s m args below meth c H locs 0 0 (MQ below (va_Qi Q (kB SM G) (aS SM G)) args s 0 0 (aS SM G)) (F0 m 10 ls []) := by
  have hx := C.1
  have hb := C.2.1
  unfold w_X12_read_b10 at hq
  refine lv_iload_n hx hb dX12_read_10 rfl (lv_at hl 1 rfl) ?_
  refine lv_aload_n hx hb dX12_read_11 rfl (lv_at hl 0 rfl) ?_
  refine gt12_4 C hK hW (rfl : shM 0 = 12) (List.mem_cons_of_mem _ mw605) (fun _ h9 => List.mem_cons_of_mem _ (inU_wsX120 _ h9)) dX12_read_12 ?_
  refine lv_icmp_ge (tgt := 36) hx hb dX12_read_15 (by decide) (fun c2 => ?_) (fun c2 => ?_)
  · have hq := hq.1 c2
    refine lv_aload_n hx hb dX12_read_36 rfl (lv_at hl 0 rfl) ?_
    refine lv_iconst (v := 0) hx hb dX12_read_37 (by decide) ?_
    refine pt12_2 C hK hW (rfl : shM 0 = 12) (List.mem_cons_of_mem _ mw338) (fun _ h9 => List.mem_cons_of_mem _ (inU_wsX120 _ h9)) dX12_read_38 (fun h3 H locs eh3 hW => ?_)
    have hq := hq h3 eh3
    refine lv_aload_n hx hb dX12_read_41 rfl (lv_at hl 0 rfl) ?_
    refine k_cv hW (va_runV (As := []) (rest := []) (k_fix C) (c_X12_cut l G h3 _ hq) (cwV 0 C.2.2.2.2.2.1 (gU_V mw619 mw620 mw621 mw5 mw622) rfl rfl rfl (by decide +kernel) ⟨Nat.le_of_ble_eq_true rfl, Nat.le_of_ble_eq_true rfl⟩) (k_preV hK hW (shM_lt (rfl : shM 0 = 12) (by decide)) (ceM_12 (rfl : shM 0 = 12)) (q := (RX12, TX12, 73)) rfl) rfl rfl hl.1 rfl (lv_room (Nat.le_of_ble_eq_true rfl)) dX12_read_42 ⟨Nat.le_refl 0, Nat.le_refl 0⟩) (fun h4 H locs hq hW => ?_)
    refine lv_aload_n hx hb dX12_read_45 rfl (lv_at hl 0 rfl) ?_
    refine lv_iconst (v := 0) hx hb dX12_read_46 (by decide) ?_
    refine pt12_11 C hK hW (rfl : shM 0 = 12) (List.mem_cons_of_mem _ mw606) (fun _ h9 => List.mem_cons_of_mem _ (inU_wsX120 _ h9)) dX12_read_47 (fun h5 H locs eh5 hW => ?_)
    have hq := hq h5 eh5
    refine lv_aload_n hx hb dX12_read_50 rfl (lv_at hl 0 rfl) ?_
    refine lv_iconst (v := 0) hx hb dX12_read_51 (by decide) ?_
    refine pt12_12 C hK hW (rfl : shM 0 = 12) (List.mem_cons_of_mem _ mw607) (fun _ h9 => List.mem_cons_of_mem _ (inU_wsX120 _ h9)) dX12_read_52 (fun h6 H locs eh6 hW => ?_)
    have hq := hq h6 eh6
    refine lv_aload_n hx hb dX12_read_55 rfl (lv_at hl 0 rfl) ?_
    refine lv_iconst (v := 0) hx hb dX12_read_56 (by decide) ?_
    refine pt12_13 C hK hW (rfl : shM 0 = 12) (List.mem_cons_of_mem _ mw608) (fun _ h9 => List.mem_cons_of_mem _ (inU_wsX120 _ h9)) dX12_read_57 (fun h7 H locs eh7 hW => ?_)
    have hq := hq h7 eh7
    refine lv_aload_n hx hb dX12_read_60 rfl (lv_at hl 0 rfl) ?_
    refine lv_iconst (v := 0) hx hb dX12_read_61 (by decide) ?_
    refine pt12_15 C hK hW (rfl : shM 0 = 12) (List.mem_cons_of_mem _ mw609) (fun _ h9 => List.mem_cons_of_mem _ (inU_wsX120 _ h9)) dX12_read_62 (fun h8 H locs eh8 hW => ?_)
    have hq := hq h8 eh8
    refine lv_aload_n hx hb dX12_read_65 rfl (lv_at hl 0 rfl) ?_
    refine lv_iconst (v := 1) hx hb dX12_read_66 (by decide) ?_
    refine lv_aload_n hx hb dX12_read_67 rfl (lv_at hl 0 rfl) ?_
    refine gt12_18 C hK hW (rfl : shM 0 = 12) (List.mem_cons_of_mem _ mw610) (fun _ h9 => List.mem_cons_of_mem _ (inU_wsX120 _ h9)) dX12_read_68 ?_
    refine lv_isub hx hb dX12_read_71 ?_
    refine pt12_19 C hK hW (rfl : shM 0 = 12) (List.mem_cons_of_mem _ mw611) (fun _ h9 => List.mem_cons_of_mem _ (inU_wsX120 _ h9)) dX12_read_72 (fun h9 H locs eh9 hW => ?_)
    have hq := hq h9 eh9
    refine lv_aload_n hx hb dX12_read_75 rfl (lv_at hl 0 rfl) ?_
    refine lv_iconst (v := 0) hx hb dX12_read_76 (by decide) ?_
    refine pt12_20 C hK hW (rfl : shM 0 = 12) (List.mem_cons_of_mem _ mw612) (fun _ h9 => List.mem_cons_of_mem _ (inU_wsX120 _ h9)) dX12_read_77 (fun h10 H locs eh10 hW => ?_)
    have hq := hq h10 eh10
    refine lv_aload_n hx hb dX12_read_80 rfl (lv_at hl 0 rfl) ?_
    refine lv_aload_n hx hb dX12_read_81 rfl (lv_at hl 0 rfl) ?_
    refine gt12_19 C hK hW (rfl : shM 0 = 12) (List.mem_cons_of_mem _ mw611) (fun _ h9 => List.mem_cons_of_mem _ (inU_wsX120 _ h9)) dX12_read_82 ?_
    refine k_cv hW (va_runV (As := [.int (gI h10 0 19)]) (rest := []) (k_fix C) (c_X12_plain l G h10 (gI h10 0 19) _ hq) (cwV 1 C.2.2.2.2.2.1 (gU_V mw315 mw316 mw317 mw5 mw318) rfl rfl rfl (by decide +kernel) ⟨Nat.le_of_ble_eq_true rfl, Nat.le_of_ble_eq_true rfl⟩) (k_preV hK hW (shM_lt (rfl : shM 0 = 12) (by decide)) (ceM_12 (rfl : shM 0 = 12)) (q := (RX12, TX12, 73)) rfl) rfl rfl hl.1 rfl (lv_room (Nat.le_of_ble_eq_true rfl)) dX12_read_85 ⟨Nat.le_refl 0, Nat.le_refl 0⟩) (fun h11 H locs hq hW => ?_)
    refine lv_aload_n hx hb dX12_read_88 rfl (lv_at hl 0 rfl) ?_
    refine lv_sipush (v := 130) hx hb dX12_read_89 (by decide) ?_
    refine lv_aload_n hx hb dX12_read_92 rfl (lv_at hl 0 rfl) ?_
    refine gt12_19 C hK hW (rfl : shM 0 = 12) (List.mem_cons_of_mem _ mw611) (fun _ h9 => List.mem_cons_of_mem _ (inU_wsX120 _ h9)) dX12_read_93 ?_
    refine lv_imul hx hb dX12_read_96 ?_
    refine pt12_37 C hK hW (rfl : shM 0 = 12) (List.mem_cons_of_mem _ mw613) (fun _ h9 => List.mem_cons_of_mem _ (inU_wsX120 _ h9)) dX12_read_97 (fun h12 H locs eh12 hW => ?_)
    have hq := hq h12 eh12
    refine lv_aload_n hx hb dX12_read_100 rfl (lv_at hl 0 rfl) ?_
    refine lv_sipush (v := 420) hx hb dX12_read_101 (by decide) ?_
    refine lv_aload_n hx hb dX12_read_104 rfl (lv_at hl 0 rfl) ?_
    refine gt12_19 C hK hW (rfl : shM 0 = 12) (List.mem_cons_of_mem _ mw611) (fun _ h9 => List.mem_cons_of_mem _ (inU_wsX120 _ h9)) dX12_read_105 ?_
    refine lv_imul hx hb dX12_read_108 ?_
    refine pt12_43 C hK hW (rfl : shM 0 = 12) (List.mem_cons_of_mem _ mw614) (fun _ h9 => List.mem_cons_of_mem _ (inU_wsX120 _ h9)) dX12_read_109 (fun h13 H locs eh13 hW => ?_)
    have hq := hq h13 eh13
    exact k_X12_read_112 C hK hW (lv_sub hl [0] rfl) hq
  · have hq := hq.2 c2
    refine lv_aload_n hx hb dX12_read_18 rfl (lv_at hl 0 rfl) ?_
    refine gt12_3 C hK hW (rfl : shM 0 = 12) (List.mem_cons_of_mem _ mw264) (fun _ h9 => List.mem_cons_of_mem _ (inU_wsX120 _ h9)) dX12_read_19 ?_
    refine lv_iload_n hx hb dX12_read_22 rfl (lv_at hl 1 rfl) ?_
    refine lv_aload_n hx hb dX12_read_23 rfl (lv_at hl 0 rfl) ?_
    refine gt12_1 C hK hW (rfl : shM 0 = 12) (List.mem_cons_of_mem _ mw263) (fun _ h9 => List.mem_cons_of_mem _ (inU_wsX120 _ h9)) dX12_read_24 ?_
    refine lv_iload_n hx hb dX12_read_27 rfl (lv_at hl 1 rfl) ?_
    refine k_bald C hK hW (shM_lt (rfl : shM 1 = 13) (by decide)) (ceM_13 (rfl : shM 1 = 13) (rfl : lnM 1 = 2000)) hq.1 dX12_read_28 ?_
    have hq := hq.2
    refine k_bast okM C hK hW (shM_lt (rfl : shM 2 = 13) (by decide)) (fun g9 => ceM_13 (rfl : shM 2 = 13) (rfl : lnM 2 = 2000)) hq.1 dX12_read_29 (fun H locs hW => ?_)
    have hq := hq.2
    obtain ⟨h14, eh14⟩ : ∃ z : hp, z = sI h 2 (ix x1) (jb (gI h 1 (ix x1))) := ⟨_, rfl⟩
    rw [← eh14] at hW
    have hq := hq h14 eh14
    obtain ⟨x1_15, ex1_15⟩ : ∃ y : Int32, y = x1 + 1 := ⟨_, rfl⟩
    have hq := hq x1_15 ex1_15
    refine lv_iinc (v := x1_15) (lv' := [(1, .int x1_15), (0, .ref (G.2.2 0))]) hx hb dX12_read_30 hl (k := 1) rfl (by rw [ex1_15]; rfl) (by decide) rfl (fun ls hl => ?_)
    refine lv_goto (tgt := 10) hx hb dX12_read_33 (by decide) ?_
    exact hX10 _ _ _ _ _ hW (lv_sub hl [1, 0] rfl) hq
theorem k_X12_read_10 {Q : Int32 → hp → Prop} (C : kC p s m args meth c cX12_read 2 (some .int) RX12 wUX12_read) (hK : kK G s) {x1 : Int32} {h : hp} {H : Heap} {locs : List Loc} {ls : Array Slot} (hW : kW SM G h (aS SM G) s H locs) (hl : lv_has ls 2 [(0, .ref (G.2.2 0)), (1, .int x1)]) (hq : w_X12_read_10 Q x1 h) : W p l e rmX12_read s m args below meth c H locs 0 0 (MQ below (va_Qi Q (kB SM G) (aS SM G)) args s 0 0 (aS SM G)) (F0 m 10 ls []) := by
  have key := hq (fun (q : Int32 × hp) => ∀ (H : Heap) (locs : List Loc) (ls : Array Slot), kW SM G q.2 (aS SM G) s H locs → lv_has ls 2 [(0, .ref (G.2.2 0)), (1, .int q.1)] → W p l e rmX12_read s m args below meth c H locs 0 0 (MQ below (va_Qi Q (kB SM G) (aS SM G)) args s 0 0 (aS SM G)) (F0 m 10 ls []))
    (fun q hq H locs ls hW hl => k_X12_read_b10 C hK (fun x1 h H locs ls hW hl hI => hI H locs ls hW hl) hW hl hq)
  exact key _ _ _ hW hl
theorem k_X12_read_0 {Q : Int32 → hp → Prop} {h : hp} (C : kC p s m args meth c cX12_read 2 (some .int) RX12 wUX12_read) (hK : kK G s) {H : Heap} {locs : List Loc} {ls : Array Slot} (hW : kW SM G h (aS SM G) s H locs) (hl : lv_has ls 2 [(0, .ref (G.2.2 0))]) (hq : w_X12_read_0 Q h) : W p l e rmX12_read s m args below meth c H locs 0 0 (MQ below (va_Qi Q (kB SM G) (aS SM G)) args s 0 0 (aS SM G)) (F0 m 0 ls []) := by
  have hx := C.1
  have hb := C.2.1
  unfold w_X12_read_0 at hq
  refine lv_aload_n hx hb dX12_read_0 rfl (lv_at hl 0 rfl) ?_
  refine lv_aload_n hx hb dX12_read_1 rfl (lv_at hl 0 rfl) ?_
  refine gt12_2 C hK hW (rfl : shM 0 = 12) (List.mem_cons_of_mem _ mw338) (fun _ h9 => List.mem_cons_of_mem _ (inU_wsX120 _ h9)) dX12_read_2 ?_
  refine pt12_4 C hK hW (rfl : shM 0 = 12) (List.mem_cons_of_mem _ mw605) (fun _ h9 => List.mem_cons_of_mem _ (inU_wsX120 _ h9)) dX12_read_5 (fun h1 H locs eh1 hW => ?_)
  have hq := hq h1 eh1
  refine lv_iconst (v := 0) hx hb dX12_read_8 (by decide) ?_
  refine lv_istore_n (lv' := [(1, .int 0), (0, .ref (G.2.2 0))]) hx hb dX12_read_9 rfl hl (by decide) rfl (fun ls hl => ?_)
  exact k_X12_read_10 C hK hW (lv_sub hl [1, 0] rfl) hq
theorem c_X12_read (l : Launch) (G : wG) (h : hp) (Q : Int32 → hp → Prop) (hq : w_X12_read h Q) : ctI l SM G yX12_read wUX12_read rmX12_read h [.ref (G.2.2 0)] Q := by
  refine k_start (cc := cX12_read) (maxL := 2) (rt := (some .int)) (own := RX12) (by decide +kernel) rfl rfl (Nat.le_of_ble_eq_true rfl) ?_
  intro p e s m below meth c ls C hK hW hl
  exact k_X12_read_0 C hK hW hl hq
theorem k_X12_place_0 {Q : Int32 → Prop} {h : hp} (C : kC p s m args meth c cX12_place 1 (some .int) RX12 wUX12_place) (hK : kK G s) {H : Heap} {locs : List Loc} {ls : Array Slot} (hW : kW SM G h (aS SM G) s H locs) (hl : lv_has ls 1 [(0, .ref (G.2.2 0))]) (hq : w_X12_place_0 Q h) : W p l e rmX12_place s m args below meth c H locs 0 0 (MQ below (va_Qi (fun r9 h9 => h9 = h ∧ Q r9) (kB SM G) (aS SM G)) args s 0 0 (aS SM G)) (F0 m 0 ls []) := by
  have hx := C.1
  have hb := C.2.1
  unfold w_X12_place_0 at hq
  refine lv_aload_n hx hb dX12_place_0 rfl (lv_at hl 0 rfl) ?_
  refine gt12_17 C hK hW (rfl : shM 0 = 12) (List.mem_cons_of_mem _ mw270) (fun _ h9 => List.mem_cons_of_mem _ (inU_wsX120 _ h9)) dX12_place_1 ?_
  exact k_iret rfl C hW dX12_place_4 ⟨rfl, hq⟩
theorem c_X12_place (l : Launch) (G : wG) (h : hp) (Q : Int32 → Prop) (hq : w_X12_place h Q) : ctI l SM G yX12_place wUX12_place rmX12_place h [.ref (G.2.2 0)] (fun r9 h9 => h9 = h ∧ Q r9) := by
  refine k_start (cc := cX12_place) (maxL := 1) (rt := (some .int)) (own := RX12) (by decide +kernel) rfl rfl (Nat.le_of_ble_eq_true rfl) ?_
  intro p e s m below meth c ls C hK hW hl
  exact k_X12_place_0 C hK hW hl hq
theorem k_X12_in_0 {Q : Int32 → Prop} {x0 : Int64} {x2 : Int64} {x4 : Int64} {h : hp} (C : kC p s m args meth c cX12_in 6 (some .boolean) RX12 wUX12_in) (hK : kK G s) {H : Heap} {locs : List Loc} {ls : Array Slot} (hW : kW SM G h (aS SM G) s H locs) (hl : lv_has ls 6 [(0, .long x0), (2, .long x2), (4, .long x4)]) (hq : w_X12_in_0 Q x0 x2 x4) : W p l e rmX12_in s m args below meth c H locs 0 0 (MQ below (va_Qi (fun r9 h9 => h9 = h ∧ Q r9) (kB SM G) (aS SM G)) args s 0 0 (aS SM G)) (F0 m 0 ls []) := by
  have hx := C.1
  have hb := C.2.1
  unfold w_X12_in_0 at hq
  refine lv_lload_n hx hb dX12_in_0 rfl (lv_at hl 0 rfl) ?_
  refine lv_lload_n hx hb dX12_in_1 rfl (lv_at hl 1 rfl) ?_
  refine W.lcmp hx hb dX12_in_2 ?_
  refine lv_if_lt (tgt := 17) hx hb dX12_in_3 (by decide) (fun c1 => ?_) (fun c1 => ?_)
  · have hq := hq.1 ((lg_cmp_lt _ _).mp c1)
    refine lv_iconst (v := 0) hx hb dX12_in_17 (by decide) ?_
    exact k_zret rfl isZ_0.1 C hW dX12_in_18 ⟨rfl, hq⟩
  · have hq := hq.2 (fun z => c1 ((lg_cmp_lt _ _).mpr z))
    refine lv_lload_n hx hb dX12_in_6 rfl (lv_at hl 0 rfl) ?_
    refine lv_lload hx hb dX12_in_7 (lv_at hl 2 rfl) ?_
    refine W.lcmp hx hb dX12_in_9 ?_
    refine lv_if_gt (tgt := 17) hx hb dX12_in_10 (by decide) (fun c2 => ?_) (fun c2 => ?_)
    · have hq := hq.1 ((lg_cmp_gt _ _).mp c2)
      refine lv_iconst (v := 0) hx hb dX12_in_17 (by decide) ?_
      exact k_zret rfl isZ_0.1 C hW dX12_in_18 ⟨rfl, hq⟩
    · have hq := hq.2 (fun z => c2 ((lg_cmp_gt _ _).mpr z))
      refine lv_iconst (v := 1) hx hb dX12_in_13 (by decide) ?_
      refine lv_goto (tgt := 18) hx hb dX12_in_14 (by decide) ?_
      exact k_zret rfl isZ_1.1 C hW dX12_in_18 ⟨rfl, hq⟩
theorem c_X12_in (l : Launch) (G : wG) (h : hp) (x0 : Int64) (x2 : Int64) (x4 : Int64) (Q : Int32 → Prop) (hq : w_X12_in x0 x2 x4 Q) : ctI l SM G yX12_in wUX12_in rmX12_in h [.long x0, .long x2, .long x4] (fun r9 h9 => h9 = h ∧ Q r9) := by
  refine k_start (cc := cX12_in) (maxL := 6) (rt := (some .boolean)) (own := RX12) (by decide +kernel) rfl rfl (Nat.le_of_ble_eq_true rfl) ?_
  intro p e s m below meth c ls C hK hW hl
  exact k_X12_in_0 C hK hW hl hq
theorem k_X12_isRow_0 {Q : Int32 → Prop} {x1 : Int32} {h : hp} (C : kC p s m args meth c cX12_isRow 2 (some .boolean) RX12 wUX12_isRow) (hK : kK G s) {H : Heap} {locs : List Loc} {ls : Array Slot} (hW : kW SM G h (aS SM G) s H locs) (hl : lv_has ls 2 [(0, .ref (G.2.2 0)), (1, .int x1)]) (hq : w_X12_isRow_0 Q x1 h) : W p l e rmX12_isRow s m args below meth c H locs 0 0 (MQ below (va_Qi (fun r9 h9 => h9 = h ∧ Q r9) (kB SM G) (aS SM G)) args s 0 0 (aS SM G)) (F0 m 0 ls []) := by
  have hx := C.1
  have hb := C.2.1
  unfold w_X12_isRow_0 at hq
  refine lv_iload_n hx hb dX12_isRow_0 rfl (lv_at hl 1 rfl) ?_
  refine lv_i2l (v := x1.toInt64) hx hb dX12_isRow_1 rfl ?_
  refine lv_lconst (v := 0) hx hb dX12_isRow_2 (by decide) ?_
  refine lv_aload_n hx hb dX12_isRow_3 rfl (lv_at hl 0 rfl) ?_
  refine gt12_22 C hK hW (rfl : shM 0 = 12) (List.mem_cons_of_mem _ mw272) (fun _ h9 => List.mem_cons_of_mem _ (inU_wsX120 _ h9)) dX12_isRow_4 ?_
  refine lv_aload_n hx hb dX12_isRow_7 rfl (lv_at hl 0 rfl) ?_
  refine gt12_18 C hK hW (rfl : shM 0 = 12) (List.mem_cons_of_mem _ mw610) (fun _ h9 => List.mem_cons_of_mem _ (inU_wsX120 _ h9)) dX12_isRow_8 ?_
  refine k_iald C hK hW (shM_lt (rfl : shM 9 = 14) (by decide)) (ceM_14 (rfl : shM 9 = 14) (rfl : lnM 9 = 2)) hq.1 dX12_isRow_11 ?_
  have hq := hq.2
  refine lv_iconst (v := 1) hx hb dX12_isRow_12 (by decide) ?_
  refine lv_isub hx hb dX12_isRow_13 ?_
  refine lv_i2l (v := ((gI h 9 (ix (gI h 0 18))) - 1).toInt64) hx hb dX12_isRow_14 rfl ?_
  refine k_ci hW (va_runS (As := [.long (x1.toInt64), .long 0, .long (((gI h 9 (ix (gI h 0 18))) - 1).toInt64)]) (rest := []) (k_fix C) (c_X12_in l G h (x1.toInt64) 0 (((gI h 9 (ix (gI h 0 18))) - 1).toInt64) _ hq) (va_cwS 3 C.2.2.2.2.2.1 (gU_S mw762 mw763 mw5 mw764) rfl rfl rfl (by decide +kernel) ⟨Nat.le_of_ble_eq_true rfl, Nat.le_of_ble_eq_true rfl⟩) (k_preS hK hW) rfl rfl hl.1 rfl (lv_room (Nat.le_of_ble_eq_true rfl)) dX12_isRow_15 ⟨Nat.le_refl 0, Nat.le_refl 0⟩) (fun r1 h2 H locs hq hW => ?_)
  rw [hq.1] at hW
  have hq := hq.2
  exact k_zret rfl hq.1.1 C hW dX12_isRow_18 ⟨rfl, hq.2⟩
theorem c_X12_isRow (l : Launch) (G : wG) (h : hp) (x1 : Int32) (Q : Int32 → Prop) (hq : w_X12_isRow h x1 Q) : ctI l SM G yX12_isRow wUX12_isRow rmX12_isRow h [.ref (G.2.2 0), .int x1] (fun r9 h9 => h9 = h ∧ Q r9) := by
  refine k_start (cc := cX12_isRow) (maxL := 2) (rt := (some .boolean)) (own := RX12) (by decide +kernel) rfl rfl (Nat.le_of_ble_eq_true rfl) ?_
  intro p e s m below meth c ls C hK hW hl
  exact k_X12_isRow_0 C hK hW hl hq
theorem k_X12_longAt_0 {Q : Int32 → Prop} {x1 : Int32} {h : hp} (C : kC p s m args meth c cX12_longAt 2 (some .int) RX12 wUX12_longAt) (hK : kK G s) {H : Heap} {locs : List Loc} {ls : Array Slot} (hW : kW SM G h (aS SM G) s H locs) (hl : lv_has ls 2 [(0, .ref (G.2.2 0)), (1, .int x1)]) (hq : w_X12_longAt_0 Q x1 h) : W p l e rmX12_longAt s m args below meth c H locs 0 0 (MQ below (va_Qi (fun r9 h9 => h9 = h ∧ Q r9) (kB SM G) (aS SM G)) args s 0 0 (aS SM G)) (F0 m 0 ls []) := by
  have hx := C.1
  have hb := C.2.1
  unfold w_X12_longAt_0 at hq
  refine lv_aload_n hx hb dX12_longAt_0 rfl (lv_at hl 0 rfl) ?_
  refine gt12_23 C hK hW (rfl : shM 0 = 12) (List.mem_cons_of_mem _ mw273) (fun _ h9 => List.mem_cons_of_mem _ (inU_wsX120 _ h9)) dX12_longAt_1 ?_
  refine lv_bipush (v := 6) hx hb dX12_longAt_4 (by decide) ?_
  refine lv_aload_n hx hb dX12_longAt_6 rfl (lv_at hl 0 rfl) ?_
  refine gt12_18 C hK hW (rfl : shM 0 = 12) (List.mem_cons_of_mem _ mw610) (fun _ h9 => List.mem_cons_of_mem _ (inU_wsX120 _ h9)) dX12_longAt_7 ?_
  refine lv_imul hx hb dX12_longAt_10 ?_
  refine lv_iload_n hx hb dX12_longAt_11 rfl (lv_at hl 1 rfl) ?_
  refine lv_iadd hx hb dX12_longAt_12 ?_
  refine k_iald C hK hW (shM_lt (rfl : shM 10 = 14) (by decide)) (ceM_14 (rfl : shM 10 = 14) (rfl : lnM 10 = 12)) hq.1 dX12_longAt_13 ?_
  have hq := hq.2
  exact k_iret rfl C hW dX12_longAt_14 ⟨rfl, hq⟩
theorem c_X12_longAt (l : Launch) (G : wG) (h : hp) (x1 : Int32) (Q : Int32 → Prop) (hq : w_X12_longAt h x1 Q) : ctI l SM G yX12_longAt wUX12_longAt rmX12_longAt h [.ref (G.2.2 0), .int x1] (fun r9 h9 => h9 = h ∧ Q r9) := by
  refine k_start (cc := cX12_longAt) (maxL := 2) (rt := (some .int)) (own := RX12) (by decide +kernel) rfl rfl (Nat.le_of_ble_eq_true rfl) ?_
  intro p e s m below meth c ls C hK hW hl
  exact k_X12_longAt_0 C hK hW hl hq
theorem k_X12_at_0 {Q : Int32 → Prop} {x1 : Int32} {x2 : Int32} {h : hp} (C : kC p s m args meth c cX12_at 3 (some .int) RX12 wUX12_at) (hK : kK G s) {H : Heap} {locs : List Loc} {ls : Array Slot} (hW : kW SM G h (aS SM G) s H locs) (hl : lv_has ls 3 [(0, .ref (G.2.2 0)), (1, .int x1), (2, .int x2)]) (hq : w_X12_at_0 Q x1 x2 h) : W p l e rmX12_at s m args below meth c H locs 0 0 (MQ below (va_Qi (fun r9 h9 => h9 = h ∧ Q r9) (kB SM G) (aS SM G)) args s 0 0 (aS SM G)) (F0 m 0 ls []) := by
  have hx := C.1
  have hb := C.2.1
  unfold w_X12_at_0 at hq
  refine lv_aload_n hx hb dX12_at_0 rfl (lv_at hl 0 rfl) ?_
  refine gt12_24 C hK hW (rfl : shM 0 = 12) (List.mem_cons_of_mem _ mw274) (fun _ h9 => List.mem_cons_of_mem _ (inU_wsX120 _ h9)) dX12_at_1 ?_
  refine lv_bipush (v := 36) hx hb dX12_at_4 (by decide) ?_
  refine lv_aload_n hx hb dX12_at_6 rfl (lv_at hl 0 rfl) ?_
  refine gt12_18 C hK hW (rfl : shM 0 = 12) (List.mem_cons_of_mem _ mw610) (fun _ h9 => List.mem_cons_of_mem _ (inU_wsX120 _ h9)) dX12_at_7 ?_
  refine lv_imul hx hb dX12_at_10 ?_
  refine lv_bipush (v := 6) hx hb dX12_at_11 (by decide) ?_
  refine lv_iload_n hx hb dX12_at_13 rfl (lv_at hl 1 rfl) ?_
  refine lv_imul hx hb dX12_at_14 ?_
  refine lv_iadd hx hb dX12_at_15 ?_
  refine lv_iload_n hx hb dX12_at_16 rfl (lv_at hl 2 rfl) ?_
  refine lv_iadd hx hb dX12_at_17 ?_
  refine k_iald C hK hW (shM_lt (rfl : shM 11 = 14) (by decide)) (ceM_14 (rfl : shM 11 = 14) (rfl : lnM 11 = 72)) hq.1 dX12_at_18 ?_
  have hq := hq.2
  exact k_iret rfl C hW dX12_at_19 ⟨rfl, hq⟩
theorem c_X12_at (l : Launch) (G : wG) (h : hp) (x1 : Int32) (x2 : Int32) (Q : Int32 → Prop) (hq : w_X12_at h x1 x2 Q) : ctI l SM G yX12_at wUX12_at rmX12_at h [.ref (G.2.2 0), .int x1, .int x2] (fun r9 h9 => h9 = h ∧ Q r9) := by
  refine k_start (cc := cX12_at) (maxL := 3) (rt := (some .int)) (own := RX12) (by decide +kernel) rfl rfl (Nat.le_of_ble_eq_true rfl) ?_
  intro p e s m below meth c ls C hK hW hl
  exact k_X12_at_0 C hK hW hl hq
theorem k_X12_row_0 {Q : Int32 → Prop} {x1 : Int32} {x2 : Int32} {h : hp} (C : kC p s m args meth c cX12_row 3 (some .int) RX12 wUX12_row) (hK : kK G s) {H : Heap} {locs : List Loc} {ls : Array Slot} (hW : kW SM G h (aS SM G) s H locs) (hl : lv_has ls 3 [(0, .ref (G.2.2 0)), (1, .int x1), (2, .int x2)]) (hq : w_X12_row_0 Q x1 x2 h) : W p l e rmX12_row s m args below meth c H locs 0 0 (MQ below (va_Qi (fun r9 h9 => h9 = h ∧ Q r9) (kB SM G) (aS SM G)) args s 0 0 (aS SM G)) (F0 m 0 ls []) := by
  have hx := C.1
  have hb := C.2.1
  unfold w_X12_row_0 at hq
  refine lv_aload_n hx hb dX12_row_0 rfl (lv_at hl 0 rfl) ?_
  refine lv_iload_n hx hb dX12_row_1 rfl (lv_at hl 1 rfl) ?_
  refine k_ci hW (va_runV (As := [.int x1]) (rest := []) (k_fix C) (c_X12_isRow l G h x1 _ hq) (cwV 1 C.2.2.2.2.2.1 (gU_V mw758 mw759 mw760 mw5 mw761) rfl rfl rfl (by decide +kernel) ⟨Nat.le_of_ble_eq_true rfl, Nat.le_of_ble_eq_true rfl⟩) (k_preV hK hW (shM_lt (rfl : shM 0 = 12) (by decide)) (ceM_12 (rfl : shM 0 = 12)) (q := (RX12, TX12, 73)) rfl) rfl rfl hl.1 rfl (lv_room (Nat.le_of_ble_eq_true rfl)) dX12_row_2 ⟨Nat.le_refl 0, Nat.le_refl 0⟩) (fun r1 h2 H locs hq hW => ?_)
  rw [hq.1] at hW
  have hq := hq.2
  refine lv_if_ne (tgt := 12) hx hb dX12_row_5 (by decide) (fun c3 => ?_) (fun c3 => ?_)
  · have hq := hq.1 c3
    refine lv_iload_n hx hb dX12_row_12 rfl (lv_at hl 2 rfl) ?_
    refine lv_iconst (v := (-1)) hx hb dX12_row_13 (by decide) ?_
    refine lv_icmp_ne (tgt := 23) hx hb dX12_row_14 (by decide) (fun c4 => ?_) (fun c4 => ?_)
    · have hq := hq.1 c4
      refine lv_iload_n hx hb dX12_row_23 rfl (lv_at hl 2 rfl) ?_
      refine lv_i2l (v := x2.toInt64) hx hb dX12_row_24 rfl ?_
      refine lv_lconst (v := 0) hx hb dX12_row_25 (by decide) ?_
      refine lv_aload_n hx hb dX12_row_26 rfl (lv_at hl 0 rfl) ?_
      refine lv_iload_n hx hb dX12_row_27 rfl (lv_at hl 1 rfl) ?_
      refine k_ci hW (va_runV (As := [.int x1]) (rest := [.long 0, .long (x2.toInt64)]) (k_fix C) (c_X12_longAt l G h x1 _ hq) (cwV 1 C.2.2.2.2.2.1 (gU_V mw765 mw766 mw767 mw5 mw768) rfl rfl rfl (by decide +kernel) ⟨Nat.le_of_ble_eq_true rfl, Nat.le_of_ble_eq_true rfl⟩) (k_preV hK hW (shM_lt (rfl : shM 0 = 12) (by decide)) (ceM_12 (rfl : shM 0 = 12)) (q := (RX12, TX12, 73)) rfl) rfl rfl hl.1 rfl (lv_room (Nat.le_of_ble_eq_true rfl)) dX12_row_28 ⟨Nat.le_refl 0, Nat.le_refl 0⟩) (fun r5 h6 H locs hq hW => ?_)
      rw [hq.1] at hW
      have hq := hq.2
      refine lv_iconst (v := 1) hx hb dX12_row_31 (by decide) ?_
      refine lv_isub hx hb dX12_row_32 ?_
      refine lv_i2l (v := (r5 - 1).toInt64) hx hb dX12_row_33 rfl ?_
      refine k_ci hW (va_runS (As := [.long (x2.toInt64), .long 0, .long ((r5 - 1).toInt64)]) (rest := []) (k_fix C) (c_X12_in l G h (x2.toInt64) 0 ((r5 - 1).toInt64) _ hq) (va_cwS 3 C.2.2.2.2.2.1 (gU_S mw762 mw763 mw5 mw764) rfl rfl rfl (by decide +kernel) ⟨Nat.le_of_ble_eq_true rfl, Nat.le_of_ble_eq_true rfl⟩) (k_preS hK hW) rfl rfl hl.1 rfl (lv_room (Nat.le_of_ble_eq_true rfl)) dX12_row_34 ⟨Nat.le_refl 0, Nat.le_refl 0⟩) (fun r7 h8 H locs hq hW => ?_)
      rw [hq.1] at hW
      have hq := hq.2
      refine lv_if_eq (tgt := 49) hx hb dX12_row_37 (by decide) (fun c9 => ?_) (fun c9 => ?_)
      · have hq := hq.1 c9
        refine lv_sipush (v := (-1000)) hx hb dX12_row_49 (by decide) ?_
        exact k_iret rfl C hW dX12_row_52 ⟨rfl, hq⟩
      · have hq := hq.2 c9
        refine lv_aload_n hx hb dX12_row_40 rfl (lv_at hl 0 rfl) ?_
        refine lv_iload_n hx hb dX12_row_41 rfl (lv_at hl 1 rfl) ?_
        refine lv_iload_n hx hb dX12_row_42 rfl (lv_at hl 2 rfl) ?_
        refine k_ci hW (va_runV (As := [.int x1, .int x2]) (rest := []) (k_fix C) (c_X12_at l G h x1 x2 _ hq) (cwV 2 C.2.2.2.2.2.1 (gU_V mw769 mw770 mw771 mw5 mw772) rfl rfl rfl (by decide +kernel) ⟨Nat.le_of_ble_eq_true rfl, Nat.le_of_ble_eq_true rfl⟩) (k_preV hK hW (shM_lt (rfl : shM 0 = 12) (by decide)) (ceM_12 (rfl : shM 0 = 12)) (q := (RX12, TX12, 73)) rfl) rfl rfl hl.1 rfl (lv_room (Nat.le_of_ble_eq_true rfl)) dX12_row_43 ⟨Nat.le_refl 0, Nat.le_refl 0⟩) (fun r10 h11 H locs hq hW => ?_)
        rw [hq.1] at hW
        have hq := hq.2
        refine lv_goto (tgt := 52) hx hb dX12_row_46 (by decide) ?_
        exact k_iret rfl C hW dX12_row_52 ⟨rfl, hq⟩
    · have hq := hq.2 c4
      refine lv_aload_n hx hb dX12_row_17 rfl (lv_at hl 0 rfl) ?_
      refine lv_iload_n hx hb dX12_row_18 rfl (lv_at hl 1 rfl) ?_
      refine k_ci hW (va_runV (As := [.int x1]) (rest := []) (k_fix C) (c_X12_longAt l G h x1 _ hq) (cwV 1 C.2.2.2.2.2.1 (gU_V mw765 mw766 mw767 mw5 mw768) rfl rfl rfl (by decide +kernel) ⟨Nat.le_of_ble_eq_true rfl, Nat.le_of_ble_eq_true rfl⟩) (k_preV hK hW (shM_lt (rfl : shM 0 = 12) (by decide)) (ceM_12 (rfl : shM 0 = 12)) (q := (RX12, TX12, 73)) rfl) rfl rfl hl.1 rfl (lv_room (Nat.le_of_ble_eq_true rfl)) dX12_row_19 ⟨Nat.le_refl 0, Nat.le_refl 0⟩) (fun r12 h13 H locs hq hW => ?_)
      rw [hq.1] at hW
      have hq := hq.2
      exact k_iret rfl C hW dX12_row_22 ⟨rfl, hq⟩
  · have hq := hq.2 c3
    refine lv_sipush (v := (-1000)) hx hb dX12_row_8 (by decide) ?_
    exact k_iret rfl C hW dX12_row_11 ⟨rfl, hq⟩
theorem c_X12_row (l : Launch) (G : wG) (h : hp) (x1 : Int32) (x2 : Int32) (Q : Int32 → Prop) (hq : w_X12_row h x1 x2 Q) : ctI l SM G yX12_row wUX12_row rmX12_row h [.ref (G.2.2 0), .int x1, .int x2] (fun r9 h9 => h9 = h ∧ Q r9) := by
  refine k_start (cc := cX12_row) (maxL := 3) (rt := (some .int)) (own := RX12) (by decide +kernel) rfl rfl (Nat.le_of_ble_eq_true rfl) ?_
  intro p e s m below meth c ls C hK hW hl
  exact k_X12_row_0 C hK hW hl hq
end LINKS
