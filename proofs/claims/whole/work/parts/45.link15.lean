section LINKS
variable {p : Program} {l : Launch} {e : Env} {s : State} {m : MethodId} {args : Array Value} {below : List Frame} {meth : Method} {c : Code} {G : wG}
theorem k_X12_termOf_58 {Q : Int32 → hp → Prop} {X5 : Int32 × Int32 × hp → Prop} {x2 : Int32} {x3 : Int32} {x4 : Int32} {h : hp} {s0 : Int32} {s1 : Int32} (C : kC p s m args meth c cX12_termOf 8 (some .int) RX12 wUX12_termOf) (hK : kK G s) (hX5 : ∀ (x3 : Int32) (x4 : Int32) (h : hp) (H : Heap) (locs : List Loc) (ls : Array Slot), kW SM G h (aS SM G) s H locs → lv_has ls 8 [(0, .ref (G.2.2 0)), (2, .int x2), (3, .int x3), (4, .int x4)] → X5 (x3, x4, h) → W p l e rmX12_termOf s m args below meth c H locs 0 0 (MQ below (va_Qi Q (kB SM G) (aS SM G)) args s 0 0 (aS SM G)) (F0 m 5 ls [])) {H : Heap} {locs : List Loc} {ls : Array Slot} (hW : kW SM G h (aS SM G) s H locs) (hl : lv_has ls 8 [(0, .ref (G.2.2 0)), (2, .int x2), (3, .int x3), (4, .int x4)]) (hq : w_X12_termOf_58 Q X5 x2 x3 x4 h s0 s1) : W p l e rmX12_termOf s m args below meth c H locs 0 0 (MQ below (va_Qi Q (kB SM G) (aS SM G)) args s 0 0 (aS SM G)) (F0 m 58 ls [.int s0, .int s1, .ref (G.2.2 33)]) := by
  have hx := C.1
  have hb := C.2.1
  unfold w_X12_termOf_58 at hq
  refine k_iast okM C hK hW (shM_lt (rfl : shM 33 = 14) (by decide)) (fun g9 => ceM_14 (rfl : shM 33 = 14) (rfl : lnM 33 = 400)) hq.1 dX12_termOf_58 (fun H locs hW => ?_)
  have hq := hq.2
  obtain ⟨h11, eh11⟩ : ∃ z : hp, z = sI h 33 (ix s1) s0 := ⟨_, rfl⟩
  rw [← eh11] at hW
  have hq := hq h11 eh11
  obtain ⟨x3_12, ex3_12⟩ : ∃ y : Int32, y = x3 + 1 := ⟨_, rfl⟩
  have hq := hq x3_12 ex3_12
  refine lv_iinc (v := x3_12) (lv' := [(3, .int x3_12), (0, .ref (G.2.2 0)), (2, .int x2), (4, .int x4)]) hx hb dX12_termOf_59 hl (k := 2) rfl (by rw [ex3_12]; rfl) (by decide) rfl (fun ls hl => ?_)
  refine lv_goto (tgt := 159) hx hb dX12_termOf_62 (by decide) ?_
  obtain ⟨x4_13, ex4_13⟩ : ∃ y : Int32, y = x4 + 1 := ⟨_, rfl⟩
  have hq := hq x4_13 ex4_13
  refine lv_iinc (v := x4_13) (lv' := [(4, .int x4_13), (3, .int x3_12), (0, .ref (G.2.2 0)), (2, .int x2)]) hx hb dX12_termOf_159 hl (k := 3) rfl (by rw [ex4_13]; rfl) (by decide) rfl (fun ls hl => ?_)
  refine lv_goto (tgt := 5) hx hb dX12_termOf_162 (by decide) ?_
  exact hX5 _ _ _ _ _ _ hW (lv_sub hl [2, 3, 1, 0] rfl) hq
theorem k_X12_termOf_158 {Q : Int32 → hp → Prop} {X5 : Int32 × Int32 × hp → Prop} {x2 : Int32} {x3 : Int32} {x4 : Int32} {h : hp} {s0 : Int32} {s1 : Int32} (C : kC p s m args meth c cX12_termOf 8 (some .int) RX12 wUX12_termOf) (hK : kK G s) (hX5 : ∀ (x3 : Int32) (x4 : Int32) (h : hp) (H : Heap) (locs : List Loc) (ls : Array Slot), kW SM G h (aS SM G) s H locs → lv_has ls 8 [(0, .ref (G.2.2 0)), (2, .int x2), (3, .int x3), (4, .int x4)] → X5 (x3, x4, h) → W p l e rmX12_termOf s m args below meth c H locs 0 0 (MQ below (va_Qi Q (kB SM G) (aS SM G)) args s 0 0 (aS SM G)) (F0 m 5 ls [])) {H : Heap} {locs : List Loc} {ls : Array Slot} (hW : kW SM G h (aS SM G) s H locs) (hl : lv_has ls 8 [(0, .ref (G.2.2 0)), (2, .int x2), (3, .int x3), (4, .int x4)]) (hq : w_X12_termOf_158 Q X5 x2 x3 x4 h s0 s1) : W p l e rmX12_termOf s m args below meth c H locs 0 0 (MQ below (va_Qi Q (kB SM G) (aS SM G)) args s 0 0 (aS SM G)) (F0 m 158 ls [.int s0, .int s1, .ref (G.2.2 33)]) := by
  have hx := C.1
  have hb := C.2.1
  unfold w_X12_termOf_158 at hq
  refine k_iast okM C hK hW (shM_lt (rfl : shM 33 = 14) (by decide)) (fun g9 => ceM_14 (rfl : shM 33 = 14) (rfl : lnM 33 = 400)) hq.1 dX12_termOf_158 (fun H locs hW => ?_)
  have hq := hq.2
  obtain ⟨h17, eh17⟩ : ∃ z : hp, z = sI h 33 (ix s1) s0 := ⟨_, rfl⟩
  rw [← eh17] at hW
  have hq := hq h17 eh17
  obtain ⟨x4_18, ex4_18⟩ : ∃ y : Int32, y = x4 + 1 := ⟨_, rfl⟩
  have hq := hq x4_18 ex4_18
  refine lv_iinc (v := x4_18) (lv' := [(4, .int x4_18), (0, .ref (G.2.2 0)), (2, .int x2), (3, .int x3)]) hx hb dX12_termOf_159 hl (k := 3) rfl (by rw [ex4_18]; rfl) (by decide) rfl (fun ls hl => ?_)
  refine lv_goto (tgt := 5) hx hb dX12_termOf_162 (by decide) ?_
  exact hX5 _ _ _ _ _ _ hW (lv_sub hl [1, 2, 3, 0] rfl) hq
theorem k_X12_termOf_104 {Q : Int32 → hp → Prop} {X5 : Int32 × Int32 × hp → Prop} {x2 : Int32} {x3 : Int32} {x4 : Int32} {x5 : Int32} {x6 : Int32} {x7 : Int32} {h : hp} (C : kC p s m args meth c cX12_termOf 8 (some .int) RX12 wUX12_termOf) (hK : kK G s) (hX5 : ∀ (x3 : Int32) (x4 : Int32) (h : hp) (H : Heap) (locs : List Loc) (ls : Array Slot), kW SM G h (aS SM G) s H locs → lv_has ls 8 [(0, .ref (G.2.2 0)), (2, .int x2), (3, .int x3), (4, .int x4)] → X5 (x3, x4, h) → W p l e rmX12_termOf s m args below meth c H locs 0 0 (MQ below (va_Qi Q (kB SM G) (aS SM G)) args s 0 0 (aS SM G)) (F0 m 5 ls [])) {H : Heap} {locs : List Loc} {ls : Array Slot} (hW : kW SM G h (aS SM G) s H locs) (hl : lv_has ls 8 [(0, .ref (G.2.2 0)), (2, .int x2), (3, .int x3), (4, .int x4), (5, .int x5), (6, .int x6), (7, .int x7)]) (hq : w_X12_termOf_104 Q X5 x2 x3 x4 x5 x6 x7 h) : W p l e rmX12_termOf s m args below meth c H locs 0 0 (MQ below (va_Qi Q (kB SM G) (aS SM G)) args s 0 0 (aS SM G)) (F0 m 104 ls []) := by
  have hx := C.1
  have hb := C.2.1
  unfold w_X12_termOf_104 at hq
  refine lv_aload_n hx hb dX12_termOf_104 rfl (lv_at hl 0 rfl) ?_
  refine gt12_49 C hK hW (rfl : shM 0 = 12) (List.mem_cons_of_mem _ mw297) (fun _ h9 => List.mem_cons_of_mem _ (inU_wsX120 _ h9)) dX12_termOf_105 ?_
  refine lv_iload_n hx hb dX12_termOf_108 rfl (lv_at hl 2 rfl) ?_
  refine lv_iconst (v := 1) hx hb dX12_termOf_109 (by decide) ?_
  refine lv_isub hx hb dX12_termOf_110 ?_
  refine lv_iload hx hb dX12_termOf_111 (lv_at hl 4 rfl) ?_
  refine lv_iconst (v := 2) hx hb dX12_termOf_113 (by decide) ?_
  refine lv_icmp_ne (tgt := 125) hx hb dX12_termOf_114 (by decide) (fun c14 => ?_) (fun c14 => ?_)
  · have hq := hq.1 c14
    refine lv_iload hx hb dX12_termOf_125 (lv_at hl 4 rfl) ?_
    refine lv_iconst (v := 3) hx hb dX12_termOf_127 (by decide) ?_
    refine lv_icmp_ne (tgt := 139) hx hb dX12_termOf_128 (by decide) (fun c15 => ?_) (fun c15 => ?_)
    · have hq := hq.1 c15
      refine lv_iload hx hb dX12_termOf_139 (lv_at hl 4 rfl) ?_
      refine lv_iconst (v := 4) hx hb dX12_termOf_141 (by decide) ?_
      refine lv_icmp_ne (tgt := 153) hx hb dX12_termOf_142 (by decide) (fun c16 => ?_) (fun c16 => ?_)
      · have hq := hq.1 c16
        refine lv_iload hx hb dX12_termOf_153 (lv_at hl 5 rfl) ?_
        refine lv_iload hx hb dX12_termOf_155 (lv_at hl 6 rfl) ?_
        refine lv_idiv hx hb dX12_termOf_157 hq.1 ?_
        have hq := hq.2
        exact k_X12_termOf_158 C hK hX5 hW (lv_sub hl [0, 1, 2, 3] rfl) hq
      · have hq := hq.2 c16
        refine lv_iload hx hb dX12_termOf_145 (lv_at hl 5 rfl) ?_
        refine lv_iload hx hb dX12_termOf_147 (lv_at hl 6 rfl) ?_
        refine lv_imul hx hb dX12_termOf_149 ?_
        refine lv_goto (tgt := 158) hx hb dX12_termOf_150 (by decide) ?_
        exact k_X12_termOf_158 C hK hX5 hW (lv_sub hl [0, 1, 2, 3] rfl) hq
    · have hq := hq.2 c15
      refine lv_iload hx hb dX12_termOf_131 (lv_at hl 5 rfl) ?_
      refine lv_iload hx hb dX12_termOf_133 (lv_at hl 6 rfl) ?_
      refine lv_isub hx hb dX12_termOf_135 ?_
      refine lv_goto (tgt := 158) hx hb dX12_termOf_136 (by decide) ?_
      exact k_X12_termOf_158 C hK hX5 hW (lv_sub hl [0, 1, 2, 3] rfl) hq
  · have hq := hq.2 c14
    refine lv_iload hx hb dX12_termOf_117 (lv_at hl 5 rfl) ?_
    refine lv_iload hx hb dX12_termOf_119 (lv_at hl 6 rfl) ?_
    refine lv_iadd hx hb dX12_termOf_121 ?_
    refine lv_goto (tgt := 158) hx hb dX12_termOf_122 (by decide) ?_
    exact k_X12_termOf_158 C hK hX5 hW (lv_sub hl [0, 1, 2, 3] rfl) hq
theorem k_X12_termOf_b5 {Q : Int32 → hp → Prop} {X5 : Int32 × Int32 × hp → Prop} {x2 : Int32} (C : kC p s m args meth c cX12_termOf 8 (some .int) RX12 wUX12_termOf) (hK : kK G s) (hX5 : ∀ (x3 : Int32) (x4 : Int32) (h : hp) (H : Heap) (locs : List Loc) (ls : Array Slot), kW SM G h (aS SM G) s H locs → lv_has ls 8 [(0, .ref (G.2.2 0)), (2, .int x2), (3, .int x3), (4, .int x4)] → X5 (x3, x4, h) → W p l e rmX12_termOf s m args below meth c H locs 0 0 (MQ below (va_Qi Q (kB SM G) (aS SM G)) args s 0 0 (aS SM G)) (F0 m 5 ls [])) {x3 : Int32} {x4 : Int32} {h : hp} {H : Heap} {locs : List Loc} {ls : Array Slot} (hW : kW SM G h (aS SM G) s H locs) (hl : lv_has ls 8 [(0, .ref (G.2.2 0)), (2, .int x2), (3, .int x3), (4, .int x4)]) (hq : w_X12_termOf_b5 Q x2 X5 x3 x4 h) : W p l e rmX12_termOf s m args below meth c H locs 0 0 (MQ below (va_Qi Q (kB SM G) (aS SM G)) args s 0 0 (aS SM G)) (F0 m 5 ls []) := by
  have hx := C.1
  have hb := C.2.1
  unfold w_X12_termOf_b5 at hq
  refine lv_iload hx hb dX12_termOf_5 (lv_at hl 3 rfl) ?_
  refine lv_iload_n hx hb dX12_termOf_7 rfl (lv_at hl 1 rfl) ?_
  refine lv_icmp_ge (tgt := 165) hx hb dX12_termOf_8 (by decide) (fun c1 => ?_) (fun c1 => ?_)
  · have hq := hq.1 c1
    refine lv_aload_n hx hb dX12_termOf_165 rfl (lv_at hl 0 rfl) ?_
    refine gt12_49 C hK hW (rfl : shM 0 = 12) (List.mem_cons_of_mem _ mw297) (fun _ h9 => List.mem_cons_of_mem _ (inU_wsX120 _ h9)) dX12_termOf_166 ?_
    refine lv_iconst (v := 0) hx hb dX12_termOf_169 (by decide) ?_
    refine k_iald C hK hW (shM_lt (rfl : shM 33 = 14) (by decide)) (ceM_14 (rfl : shM 33 = 14) (rfl : lnM 33 = 400)) hq.1 dX12_termOf_170 ?_
    have hq := hq.2
    exact k_iret rfl C hW dX12_termOf_171 hq
  · have hq := hq.2 c1
    refine lv_aload_n hx hb dX12_termOf_11 rfl (lv_at hl 0 rfl) ?_
    refine gt12_44 C hK hW (rfl : shM 0 = 12) (List.mem_cons_of_mem _ mw293) (fun _ h9 => List.mem_cons_of_mem _ (inU_wsX120 _ h9)) dX12_termOf_12 ?_
    refine lv_iload hx hb dX12_termOf_15 (lv_at hl 3 rfl) ?_
    refine k_iald C hK hW (shM_lt (rfl : shM 29 = 14) (by decide)) (ceM_14 (rfl : shM 29 = 14) (rfl : lnM 29 = 840)) hq.1 dX12_termOf_17 ?_
    have hq := hq.2
    refine lv_topi (fun x5_2 ex5_2 => ?_)
    have hq := hq x5_2 ex5_2
    refine lv_istore (lv' := [(5, .int x5_2), (0, .ref (G.2.2 0)), (2, .int x2), (3, .int x3), (4, .int x4)]) hx hb dX12_termOf_18 hl (by decide) rfl (fun ls hl => ?_)
    refine lv_iload hx hb dX12_termOf_20 (lv_at hl 0 rfl) ?_
    refine lv_iconst (v := 2) hx hb dX12_termOf_22 (by decide) ?_
    refine lv_icmp_ge (tgt := 65) hx hb dX12_termOf_23 (by decide) (fun c3 => ?_) (fun c3 => ?_)
    · have hq := hq.1 c3
      obtain ⟨x3_4, ex3_4⟩ : ∃ y : Int32, y = x3 + (-1) := ⟨_, rfl⟩
      have hq := hq x3_4 ex3_4
      refine lv_iinc (v := x3_4) (lv' := [(3, .int x3_4), (5, .int x5_2), (0, .ref (G.2.2 0)), (2, .int x2), (4, .int x4)]) hx hb dX12_termOf_65 hl (k := 3) rfl (by rw [ex3_4]; rfl) (by decide) rfl (fun ls hl => ?_)
      refine lv_aload_n hx hb dX12_termOf_68 rfl (lv_at hl 2 rfl) ?_
      refine gt12_49 C hK hW (rfl : shM 0 = 12) (List.mem_cons_of_mem _ mw297) (fun _ h9 => List.mem_cons_of_mem _ (inU_wsX120 _ h9)) dX12_termOf_69 ?_
      refine lv_iload_n hx hb dX12_termOf_72 rfl (lv_at hl 0 rfl) ?_
      refine lv_iconst (v := 1) hx hb dX12_termOf_73 (by decide) ?_
      refine lv_isub hx hb dX12_termOf_74 ?_
      refine k_iald C hK hW (shM_lt (rfl : shM 33 = 14) (by decide)) (ceM_14 (rfl : shM 33 = 14) (rfl : lnM 33 = 400)) hq.1 dX12_termOf_75 ?_
      have hq := hq.2
      refine lv_topi (fun x6_5 ex6_5 => ?_)
      have hq := hq x6_5 ex6_5
      refine lv_istore (lv' := [(6, .int x6_5), (3, .int x3_4), (5, .int x5_2), (0, .ref (G.2.2 0)), (2, .int x2), (4, .int x4)]) hx hb dX12_termOf_76 hl (by decide) rfl (fun ls hl => ?_)
      refine lv_aload_n hx hb dX12_termOf_78 rfl (lv_at hl 3 rfl) ?_
      refine gt12_49 C hK hW (rfl : shM 0 = 12) (List.mem_cons_of_mem _ mw297) (fun _ h9 => List.mem_cons_of_mem _ (inU_wsX120 _ h9)) dX12_termOf_79 ?_
      refine lv_iload_n hx hb dX12_termOf_82 rfl (lv_at hl 1 rfl) ?_
      refine k_iald C hK hW (shM_lt (rfl : shM 33 = 14) (by decide)) (ceM_14 (rfl : shM 33 = 14) (rfl : lnM 33 = 400)) hq.1 dX12_termOf_83 ?_
      have hq := hq.2
      refine lv_topi (fun x7_6 ex7_6 => ?_)
      have hq := hq x7_6 ex7_6
      refine lv_istore (lv' := [(7, .int x7_6), (6, .int x6_5), (3, .int x3_4), (5, .int x5_2), (0, .ref (G.2.2 0)), (2, .int x2), (4, .int x4)]) hx hb dX12_termOf_84 hl (by decide) rfl (fun ls hl => ?_)
      refine lv_iload hx hb dX12_termOf_86 (lv_at hl 3 rfl) ?_
      refine lv_iconst (v := 5) hx hb dX12_termOf_88 (by decide) ?_
      refine lv_icmp_ne (tgt := 104) hx hb dX12_termOf_89 (by decide) (fun c7 => ?_) (fun c7 => ?_)
      · have hq := hq.1 c7
        exact k_X12_termOf_104 C hK hX5 hW (lv_sub hl [4, 5, 2, 6, 3, 1, 0] rfl) hq
      · have hq := hq.2 c7
        refine lv_iload hx hb dX12_termOf_92 (lv_at hl 0 rfl) ?_
        refine lv_if_ne (tgt := 104) hx hb dX12_termOf_94 (by decide) (fun c8 => ?_) (fun c8 => ?_)
        · have hq := hq.1 c8
          exact k_X12_termOf_104 C hK hX5 hW (lv_sub hl [4, 5, 2, 6, 3, 1, 0] rfl) hq
        · have hq := hq.2 c8
          refine lv_aload_n hx hb dX12_termOf_97 rfl (lv_at hl 4 rfl) ?_
          refine lv_iconst (v := 1) hx hb dX12_termOf_98 (by decide) ?_
          refine pt12_50 C hK hW (rfl : shM 0 = 12) (List.mem_cons_of_mem _ mw711) (fun _ h9 => List.mem_cons_of_mem _ (inU_wsX120 _ h9)) isZ_1 dX12_termOf_99 (fun h9 H locs eh9 hW => ?_)
          have hq := hq h9 eh9
          refine lv_iconst (v := 0) hx hb dX12_termOf_102 (by decide) ?_
          exact k_iret rfl C hW dX12_termOf_103 hq
    · have hq := hq.2 c3
      refine lv_aload_n hx hb dX12_termOf_26 rfl (lv_at hl 1 rfl) ?_
      refine gt12_49 C hK hW (rfl : shM 0 = 12) (List.mem_cons_of_mem _ mw297) (fun _ h9 => List.mem_cons_of_mem _ (inU_wsX120 _ h9)) dX12_termOf_27 ?_
      refine lv_iload_n hx hb dX12_termOf_30 rfl (lv_at hl 3 rfl) ?_
      refine lv_iload hx hb dX12_termOf_31 (lv_at hl 0 rfl) ?_
      refine lv_if_ne (tgt := 46) hx hb dX12_termOf_33 (by decide) (fun c10 => ?_) (fun c10 => ?_)
      · have hq := hq.1 c10
        refine lv_aload_n hx hb dX12_termOf_46 rfl (lv_at hl 1 rfl) ?_
        refine gt12_48 C hK hW (rfl : shM 0 = 12) (List.mem_cons_of_mem _ mw296) (fun _ h9 => List.mem_cons_of_mem _ (inU_wsX120 _ h9)) dX12_termOf_47 ?_
        refine lv_aload_n hx hb dX12_termOf_50 rfl (lv_at hl 1 rfl) ?_
        refine gt12_45 C hK hW (rfl : shM 0 = 12) (List.mem_cons_of_mem _ mw294) (fun _ h9 => List.mem_cons_of_mem _ (inU_wsX120 _ h9)) dX12_termOf_51 ?_
        refine lv_iload hx hb dX12_termOf_54 (lv_at hl 4 rfl) ?_
        refine k_iald C hK hW (shM_lt (rfl : shM 30 = 14) (by decide)) (ceM_14 (rfl : shM 30 = 14) (rfl : lnM 30 = 840)) hq.1 dX12_termOf_56 ?_
        have hq := hq.2
        refine k_iald C hK hW (shM_lt (rfl : shM 32 = 14) (by decide)) (ceM_14 (rfl : shM 32 = 14) (rfl : lnM 32 = 6)) hq.1 dX12_termOf_57 ?_
        have hq := hq.2
        exact k_X12_termOf_58 C hK hX5 hW (lv_sub hl [1, 2, 3, 4] rfl) hq
      · have hq := hq.2 c10
        refine lv_aload_n hx hb dX12_termOf_36 rfl (lv_at hl 1 rfl) ?_
        refine gt12_45 C hK hW (rfl : shM 0 = 12) (List.mem_cons_of_mem _ mw294) (fun _ h9 => List.mem_cons_of_mem _ (inU_wsX120 _ h9)) dX12_termOf_37 ?_
        refine lv_iload hx hb dX12_termOf_40 (lv_at hl 4 rfl) ?_
        refine k_iald C hK hW (shM_lt (rfl : shM 30 = 14) (by decide)) (ceM_14 (rfl : shM 30 = 14) (rfl : lnM 30 = 840)) hq.1 dX12_termOf_42 ?_
        have hq := hq.2
        refine lv_goto (tgt := 58) hx hb dX12_termOf_43 (by decide) ?_
        exact k_X12_termOf_58 C hK hX5 hW (lv_sub hl [1, 2, 3, 4] rfl) hq
theorem k_X12_termOf_5 {Q : Int32 → hp → Prop} {x2 : Int32} (C : kC p s m args meth c cX12_termOf 8 (some .int) RX12 wUX12_termOf) (hK : kK G s) {x3 : Int32} {x4 : Int32} {h : hp} {H : Heap} {locs : List Loc} {ls : Array Slot} (hW : kW SM G h (aS SM G) s H locs) (hl : lv_has ls 8 [(0, .ref (G.2.2 0)), (2, .int x2), (3, .int x3), (4, .int x4)]) (hq : w_X12_termOf_5 Q x2 x3 x4 h) : W p l e rmX12_termOf s m args below meth c H locs 0 0 (MQ below (va_Qi Q (kB SM G) (aS SM G)) args s 0 0 (aS SM G)) (F0 m 5 ls []) := by
  have key := hq (fun (q : Int32 × Int32 × hp) => ∀ (H : Heap) (locs : List Loc) (ls : Array Slot), kW SM G q.2.2 (aS SM G) s H locs → lv_has ls 8 [(0, .ref (G.2.2 0)), (2, .int x2), (3, .int q.1), (4, .int q.2.1)] → W p l e rmX12_termOf s m args below meth c H locs 0 0 (MQ below (va_Qi Q (kB SM G) (aS SM G)) args s 0 0 (aS SM G)) (F0 m 5 ls []))
    (fun q hq H locs ls hW hl => k_X12_termOf_b5 C hK (fun x3 x4 h H locs ls hW hl hI => hI H locs ls hW hl) hW hl hq)
  exact key _ _ _ hW hl
theorem k_X12_termOf_0 {Q : Int32 → hp → Prop} {x1 : Int32} {x2 : Int32} {h : hp} (C : kC p s m args meth c cX12_termOf 8 (some .int) RX12 wUX12_termOf) (hK : kK G s) {H : Heap} {locs : List Loc} {ls : Array Slot} (hW : kW SM G h (aS SM G) s H locs) (hl : lv_has ls 8 [(0, .ref (G.2.2 0)), (1, .int x1), (2, .int x2)]) (hq : w_X12_termOf_0 Q x1 x2 h) : W p l e rmX12_termOf s m args below meth c H locs 0 0 (MQ below (va_Qi Q (kB SM G) (aS SM G)) args s 0 0 (aS SM G)) (F0 m 0 ls []) := by
  have hx := C.1
  have hb := C.2.1
  unfold w_X12_termOf_0 at hq
  refine lv_iconst (v := 0) hx hb dX12_termOf_0 (by decide) ?_
  refine lv_istore_n (lv' := [(3, .int 0), (0, .ref (G.2.2 0)), (1, .int x1), (2, .int x2)]) hx hb dX12_termOf_1 rfl hl (by decide) rfl (fun ls hl => ?_)
  refine lv_iload_n hx hb dX12_termOf_2 rfl (lv_at hl 2 rfl) ?_
  refine lv_istore (lv' := [(4, .int x1), (3, .int 0), (0, .ref (G.2.2 0)), (1, .int x1), (2, .int x2)]) hx hb dX12_termOf_3 hl (by decide) rfl (fun ls hl => ?_)
  exact k_X12_termOf_5 C hK hW (lv_sub hl [2, 4, 1, 0] rfl) hq
theorem c_X12_termOf (l : Launch) (G : wG) (h : hp) (x1 : Int32) (x2 : Int32) (Q : Int32 → hp → Prop) (hq : w_X12_termOf h x1 x2 Q) : ctI l SM G yX12_termOf wUX12_termOf rmX12_termOf h [.ref (G.2.2 0), .int x1, .int x2] Q := by
  refine k_start (cc := cX12_termOf) (maxL := 8) (rt := (some .int)) (own := RX12) (by decide +kernel) rfl rfl (Nat.le_of_ble_eq_true rfl) ?_
  intro p e s m below meth c ls C hK hW hl
  exact k_X12_termOf_0 C hK hW hl hq
theorem k_X12_tellsBy_84 {Q : Int32 → hp → Prop} {x2 : Int32} {h : hp} (C : kC p s m args meth c cX12_tellsBy 5 (some .int) RX12 wUX12_tellsBy) (hK : kK G s) {H : Heap} {locs : List Loc} {ls : Array Slot} (hW : kW SM G h (aS SM G) s H locs) (hl : lv_has ls 5 [(0, .ref (G.2.2 0)), (2, .int x2)]) (hq : w_X12_tellsBy_84 Q x2 h) : W p l e rmX12_tellsBy s m args below meth c H locs 0 0 (MQ below (va_Qi Q (kB SM G) (aS SM G)) args s 0 0 (aS SM G)) (F0 m 84 ls []) := by
  have hx := C.1
  have hb := C.2.1
  unfold w_X12_tellsBy_84 at hq
  refine lv_aload_n hx hb dX12_tellsBy_84 rfl (lv_at hl 0 rfl) ?_
  refine lv_aload_n hx hb dX12_tellsBy_85 rfl (lv_at hl 0 rfl) ?_
  refine gt12_41 C hK hW (rfl : shM 0 = 12) (List.mem_cons_of_mem _ mw291) (fun _ h9 => List.mem_cons_of_mem _ (inU_wsX120 _ h9)) dX12_tellsBy_86 ?_
  refine lv_iload_n hx hb dX12_tellsBy_89 rfl (lv_at hl 1 rfl) ?_
  refine k_iald C hK hW (shM_lt (rfl : shM 27 = 14) (by decide)) (ceM_14 (rfl : shM 27 = 14) (rfl : lnM 27 = 260)) hq.1 dX12_tellsBy_90 ?_
  have hq := hq.2
  refine lv_aload_n hx hb dX12_tellsBy_91 rfl (lv_at hl 0 rfl) ?_
  refine gt12_42 C hK hW (rfl : shM 0 = 12) (List.mem_cons_of_mem _ mw292) (fun _ h9 => List.mem_cons_of_mem _ (inU_wsX120 _ h9)) dX12_tellsBy_92 ?_
  refine lv_iload_n hx hb dX12_tellsBy_95 rfl (lv_at hl 1 rfl) ?_
  refine k_iald C hK hW (shM_lt (rfl : shM 28 = 14) (by decide)) (ceM_14 (rfl : shM 28 = 14) (rfl : lnM 28 = 260)) hq.1 dX12_tellsBy_96 ?_
  have hq := hq.2
  refine k_ci hW (va_runV (As := [.int (gI h 27 (ix x2)), .int (gI h 28 (ix x2))]) (rest := []) (k_fix C) (c_X12_termOf l G h (gI h 27 (ix x2)) (gI h 28 (ix x2)) _ hq) (cwV 2 C.2.2.2.2.2.1 (gU_V mw712 mw713 mw714 mw5 mw715) rfl rfl rfl (by decide +kernel) ⟨Nat.le_of_ble_eq_true rfl, Nat.le_of_ble_eq_true rfl⟩) (k_preV hK hW (shM_lt (rfl : shM 0 = 12) (by decide)) (ceM_12 (rfl : shM 0 = 12)) (q := (RX12, TX12, 73)) rfl) rfl rfl hl.1 rfl (lv_room (Nat.le_of_ble_eq_true rfl)) dX12_tellsBy_97 ⟨Nat.le_refl 0, Nat.le_refl 0⟩) (fun r13 h12 H locs hq hW => ?_)
  refine lv_istore_n (lv' := [(3, .int r13), (0, .ref (G.2.2 0)), (2, .int x2)]) hx hb dX12_tellsBy_100 rfl hl (by decide) rfl (fun ls hl => ?_)
  refine lv_aload_n hx hb dX12_tellsBy_101 rfl (lv_at hl 1 rfl) ?_
  refine gt12_50 C hK hW (rfl : shM 0 = 12) (List.mem_cons_of_mem _ mw711) (fun _ h9 => List.mem_cons_of_mem _ (inU_wsX120 _ h9)) dX12_tellsBy_102 ?_
  refine lv_if_eq (tgt := 112) hx hb dX12_tellsBy_105 (by decide) (fun c14 => ?_) (fun c14 => ?_)
  · have hq := hq.1 c14
    refine lv_iload_n hx hb dX12_tellsBy_112 rfl (lv_at hl 0 rfl) ?_
    refine lv_bipush (v := (-99)) hx hb dX12_tellsBy_113 (by decide) ?_
    refine lv_icmp_ge (tgt := 123) hx hb dX12_tellsBy_115 (by decide) (fun c15 => ?_) (fun c15 => ?_)
    · have hq := hq.1 c15
      refine lv_iload_n hx hb dX12_tellsBy_123 rfl (lv_at hl 0 rfl) ?_
      refine lv_bipush (v := 99) hx hb dX12_tellsBy_124 (by decide) ?_
      refine lv_icmp_le (tgt := 134) hx hb dX12_tellsBy_126 (by decide) (fun c16 => ?_) (fun c16 => ?_)
      · have hq := hq.1 c16
        refine lv_iload_n hx hb dX12_tellsBy_134 rfl (lv_at hl 0 rfl) ?_
        exact k_iret rfl C hW dX12_tellsBy_135 hq
      · have hq := hq.2 c16
        refine lv_bipush (v := 99) hx hb dX12_tellsBy_129 (by decide) ?_
        refine lv_goto (tgt := 135) hx hb dX12_tellsBy_131 (by decide) ?_
        exact k_iret rfl C hW dX12_tellsBy_135 hq
    · have hq := hq.2 c15
      refine lv_bipush (v := (-99)) hx hb dX12_tellsBy_118 (by decide) ?_
      refine lv_goto (tgt := 135) hx hb dX12_tellsBy_120 (by decide) ?_
      exact k_iret rfl C hW dX12_tellsBy_135 hq
  · have hq := hq.2 c14
    refine lv_iconst (v := 0) hx hb dX12_tellsBy_108 (by decide) ?_
    refine lv_goto (tgt := 135) hx hb dX12_tellsBy_109 (by decide) ?_
    exact k_iret rfl C hW dX12_tellsBy_135 hq
theorem k_X12_tellsBy_b12 {Q : Int32 → hp → Prop} {X12 : Int32 × hp → Prop} {x1 : Int32} (C : kC p s m args meth c cX12_tellsBy 5 (some .int) RX12 wUX12_tellsBy) (hK : kK G s) (hX12 : ∀ (x2 : Int32) (h : hp) (H : Heap) (locs : List Loc) (ls : Array Slot), kW SM G h (aS SM G) s H locs → lv_has ls 5 [(0, .ref (G.2.2 0)), (1, .int x1), (2, .int x2)] → X12 (x2, h) → W p l e rmX12_tellsBy s m args below meth c H locs 0 0 (MQ below (va_Qi Q (kB SM G) (aS SM G)) args s 0 0 (aS SM G)) (F0 m 12 ls [])) {x2 : Int32} {h : hp} {H : Heap} {locs : List Loc} {ls : Array Slot} (hW : kW SM G h (aS SM G) s H locs) (hl : lv_has ls 5 [(0, .ref (G.2.2 0)), (1, .int x1), (2, .int x2)]) (hq : w_X12_tellsBy_b12 Q x1 X12 x2 h) : W p l e rmX12_tellsBy s m args below meth c H locs 0 0 (MQ below (va_Qi Q (kB SM G) (aS SM G)) args s 0 0 (aS SM G)) (F0 m 12 ls []) := by
  have hx := C.1
  have hb := C.2.1
  unfold w_X12_tellsBy_b12 at hq
  refine lv_iload_n hx hb dX12_tellsBy_12 rfl (lv_at hl 2 rfl) ?_
  refine lv_aload_n hx hb dX12_tellsBy_13 rfl (lv_at hl 0 rfl) ?_
  refine gt12_36 C hK hW (rfl : shM 0 = 12) (List.mem_cons_of_mem _ mw286) (fun _ h9 => List.mem_cons_of_mem _ (inU_wsX120 _ h9)) dX12_tellsBy_14 ?_
  refine lv_iload_n hx hb dX12_tellsBy_17 rfl (lv_at hl 1 rfl) ?_
  refine k_iald C hK hW (shM_lt (rfl : shM 23 = 14) (by decide)) (ceM_14 (rfl : shM 23 = 14) (rfl : lnM 23 = 4)) hq.1 dX12_tellsBy_18 ?_
  have hq := hq.2
  refine lv_icmp_ge (tgt := 142) hx hb dX12_tellsBy_19 (by decide) (fun c3 => ?_) (fun c3 => ?_)
  · have hq := hq.1 c3
    refine lv_iconst (v := 0) hx hb dX12_tellsBy_142 (by decide) ?_
    exact k_iret rfl C hW dX12_tellsBy_143 hq
  · have hq := hq.2 c3
    refine lv_aload_n hx hb dX12_tellsBy_22 rfl (lv_at hl 0 rfl) ?_
    refine gt12_38 C hK hW (rfl : shM 0 = 12) (List.mem_cons_of_mem _ mw288) (fun _ h9 => List.mem_cons_of_mem _ (inU_wsX120 _ h9)) dX12_tellsBy_23 ?_
    refine lv_iload_n hx hb dX12_tellsBy_26 rfl (lv_at hl 2 rfl) ?_
    refine k_zald C hK hW (shM_lt (rfl : shM 24 = 16) (by decide)) (ceM_16 (rfl : shM 24 = 16) (rfl : lnM 24 = 260)) hq.1 dX12_tellsBy_27 ?_
    have hq := hq.2
    refine lv_if_eq (tgt := 84) hx hb dX12_tellsBy_28 (by decide) (fun c4 => ?_) (fun c4 => ?_)
    · have hq := hq.1 c4
      exact k_X12_tellsBy_84 C hK hW (lv_sub hl [0, 2] rfl) hq
    · have hq := hq.2 c4
      refine lv_aload_n hx hb dX12_tellsBy_31 rfl (lv_at hl 0 rfl) ?_
      refine lv_aload_n hx hb dX12_tellsBy_32 rfl (lv_at hl 0 rfl) ?_
      refine gt12_39 C hK hW (rfl : shM 0 = 12) (List.mem_cons_of_mem _ mw289) (fun _ h9 => List.mem_cons_of_mem _ (inU_wsX120 _ h9)) dX12_tellsBy_33 ?_
      refine lv_iload_n hx hb dX12_tellsBy_36 rfl (lv_at hl 2 rfl) ?_
      refine k_iald C hK hW (shM_lt (rfl : shM 25 = 14) (by decide)) (ceM_14 (rfl : shM 25 = 14) (rfl : lnM 25 = 260)) hq.1 dX12_tellsBy_37 ?_
      have hq := hq.2
      refine lv_aload_n hx hb dX12_tellsBy_38 rfl (lv_at hl 0 rfl) ?_
      refine gt12_40 C hK hW (rfl : shM 0 = 12) (List.mem_cons_of_mem _ mw290) (fun _ h9 => List.mem_cons_of_mem _ (inU_wsX120 _ h9)) dX12_tellsBy_39 ?_
      refine lv_iload_n hx hb dX12_tellsBy_42 rfl (lv_at hl 2 rfl) ?_
      refine k_iald C hK hW (shM_lt (rfl : shM 26 = 14) (by decide)) (ceM_14 (rfl : shM 26 = 14) (rfl : lnM 26 = 260)) hq.1 dX12_tellsBy_43 ?_
      have hq := hq.2
      refine k_ci hW (va_runV (As := [.int (gI h 25 (ix x2)), .int (gI h 26 (ix x2))]) (rest := []) (k_fix C) (c_X12_termOf l G h (gI h 25 (ix x2)) (gI h 26 (ix x2)) _ hq) (cwV 2 C.2.2.2.2.2.1 (gU_V mw712 mw713 mw714 mw5 mw715) rfl rfl rfl (by decide +kernel) ⟨Nat.le_of_ble_eq_true rfl, Nat.le_of_ble_eq_true rfl⟩) (k_preV hK hW (shM_lt (rfl : shM 0 = 12) (by decide)) (ceM_12 (rfl : shM 0 = 12)) (q := (RX12, TX12, 73)) rfl) rfl rfl hl.1 rfl (lv_room (Nat.le_of_ble_eq_true rfl)) dX12_tellsBy_44 ⟨Nat.le_refl 0, Nat.le_refl 0⟩) (fun r6 h5 H locs hq hW => ?_)
      refine lv_istore_n (lv' := [(3, .int r6), (0, .ref (G.2.2 0)), (1, .int x1), (2, .int x2)]) hx hb dX12_tellsBy_47 rfl hl (by decide) rfl (fun ls hl => ?_)
      refine lv_aload_n hx hb dX12_tellsBy_48 rfl (lv_at hl 1 rfl) ?_
      refine lv_aload_n hx hb dX12_tellsBy_49 rfl (lv_at hl 1 rfl) ?_
      refine gt12_40 C hK hW (rfl : shM 0 = 12) (List.mem_cons_of_mem _ mw290) (fun _ h9 => List.mem_cons_of_mem _ (inU_wsX120 _ h9)) dX12_tellsBy_50 ?_
      refine lv_iload_n hx hb dX12_tellsBy_53 rfl (lv_at hl 3 rfl) ?_
      refine k_iald C hK hW (shM_lt (rfl : shM 26 = 14) (by decide)) (ceM_14 (rfl : shM 26 = 14) (rfl : lnM 26 = 260)) hq.1 dX12_tellsBy_54 ?_
      have hq := hq.2
      refine lv_aload_n hx hb dX12_tellsBy_55 rfl (lv_at hl 1 rfl) ?_
      refine gt12_41 C hK hW (rfl : shM 0 = 12) (List.mem_cons_of_mem _ mw291) (fun _ h9 => List.mem_cons_of_mem _ (inU_wsX120 _ h9)) dX12_tellsBy_56 ?_
      refine lv_iload_n hx hb dX12_tellsBy_59 rfl (lv_at hl 3 rfl) ?_
      refine k_iald C hK hW (shM_lt (rfl : shM 27 = 14) (by decide)) (ceM_14 (rfl : shM 27 = 14) (rfl : lnM 27 = 260)) hq.1 dX12_tellsBy_60 ?_
      have hq := hq.2
      refine k_ci hW (va_runV (As := [.int (gI h5 26 (ix x2)), .int (gI h5 27 (ix x2))]) (rest := []) (k_fix C) (c_X12_termOf l G h5 (gI h5 26 (ix x2)) (gI h5 27 (ix x2)) _ hq) (cwV 2 C.2.2.2.2.2.1 (gU_V mw712 mw713 mw714 mw5 mw715) rfl rfl rfl (by decide +kernel) ⟨Nat.le_of_ble_eq_true rfl, Nat.le_of_ble_eq_true rfl⟩) (k_preV hK hW (shM_lt (rfl : shM 0 = 12) (by decide)) (ceM_12 (rfl : shM 0 = 12)) (q := (RX12, TX12, 73)) rfl) rfl rfl hl.1 rfl (lv_room (Nat.le_of_ble_eq_true rfl)) dX12_tellsBy_61 ⟨Nat.le_refl 0, Nat.le_refl 0⟩) (fun r8 h7 H locs hq hW => ?_)
      refine lv_istore (lv' := [(4, .int r8), (3, .int r6), (0, .ref (G.2.2 0)), (1, .int x1), (2, .int x2)]) hx hb dX12_tellsBy_64 hl (by decide) rfl (fun ls hl => ?_)
      refine lv_aload_n hx hb dX12_tellsBy_66 rfl (lv_at hl 2 rfl) ?_
      refine gt12_50 C hK hW (rfl : shM 0 = 12) (List.mem_cons_of_mem _ mw711) (fun _ h9 => List.mem_cons_of_mem _ (inU_wsX120 _ h9)) dX12_tellsBy_67 ?_
      refine lv_if_eq (tgt := 75) hx hb dX12_tellsBy_70 (by decide) (fun c9 => ?_) (fun c9 => ?_)
      · have hq := hq.1 c9
        refine lv_iload_n hx hb dX12_tellsBy_75 rfl (lv_at hl 1 rfl) ?_
        refine lv_iload hx hb dX12_tellsBy_76 (lv_at hl 0 rfl) ?_
        refine lv_icmp_lt (tgt := 84) hx hb dX12_tellsBy_78 (by decide) (fun c10 => ?_) (fun c10 => ?_)
        · have hq := hq.1 c10
          exact k_X12_tellsBy_84 C hK hW (lv_sub hl [2, 4] rfl) hq
        · have hq := hq.2 c10
          refine lv_goto (tgt := 136) hx hb dX12_tellsBy_81 (by decide) ?_
          obtain ⟨x2_11, ex2_11⟩ : ∃ y : Int32, y = x2 + 1 := ⟨_, rfl⟩
          have hq := hq x2_11 ex2_11
          refine lv_iinc (v := x2_11) (lv' := [(2, .int x2_11), (4, .int r8), (3, .int r6), (0, .ref (G.2.2 0)), (1, .int x1)]) hx hb dX12_tellsBy_136 hl (k := 4) rfl (by rw [ex2_11]; rfl) (by decide) rfl (fun ls hl => ?_)
          refine lv_goto (tgt := 12) hx hb dX12_tellsBy_139 (by decide) ?_
          exact hX12 _ _ _ _ _ hW (lv_sub hl [3, 4, 0] rfl) hq
      · have hq := hq.2 c9
        refine lv_iconst (v := 0) hx hb dX12_tellsBy_73 (by decide) ?_
        exact k_iret rfl C hW dX12_tellsBy_74 hq
theorem k_X12_tellsBy_12 {Q : Int32 → hp → Prop} {x1 : Int32} (C : kC p s m args meth c cX12_tellsBy 5 (some .int) RX12 wUX12_tellsBy) (hK : kK G s) {x2 : Int32} {h : hp} {H : Heap} {locs : List Loc} {ls : Array Slot} (hW : kW SM G h (aS SM G) s H locs) (hl : lv_has ls 5 [(0, .ref (G.2.2 0)), (1, .int x1), (2, .int x2)]) (hq : w_X12_tellsBy_12 Q x1 x2 h) : W p l e rmX12_tellsBy s m args below meth c H locs 0 0 (MQ below (va_Qi Q (kB SM G) (aS SM G)) args s 0 0 (aS SM G)) (F0 m 12 ls []) := by
  have key := hq (fun (q : Int32 × hp) => ∀ (H : Heap) (locs : List Loc) (ls : Array Slot), kW SM G q.2 (aS SM G) s H locs → lv_has ls 5 [(0, .ref (G.2.2 0)), (1, .int x1), (2, .int q.1)] → W p l e rmX12_tellsBy s m args below meth c H locs 0 0 (MQ below (va_Qi Q (kB SM G) (aS SM G)) args s 0 0 (aS SM G)) (F0 m 12 ls []))
    (fun q hq H locs ls hW hl => k_X12_tellsBy_b12 C hK (fun x2 h H locs ls hW hl hI => hI H locs ls hW hl) hW hl hq)
  exact key _ _ _ hW hl
theorem k_X12_tellsBy_0 {Q : Int32 → hp → Prop} {x1 : Int32} {h : hp} (C : kC p s m args meth c cX12_tellsBy 5 (some .int) RX12 wUX12_tellsBy) (hK : kK G s) {H : Heap} {locs : List Loc} {ls : Array Slot} (hW : kW SM G h (aS SM G) s H locs) (hl : lv_has ls 5 [(0, .ref (G.2.2 0)), (1, .int x1)]) (hq : w_X12_tellsBy_0 Q x1 h) : W p l e rmX12_tellsBy s m args below meth c H locs 0 0 (MQ below (va_Qi Q (kB SM G) (aS SM G)) args s 0 0 (aS SM G)) (F0 m 0 ls []) := by
  have hx := C.1
  have hb := C.2.1
  unfold w_X12_tellsBy_0 at hq
  refine lv_aload_n hx hb dX12_tellsBy_0 rfl (lv_at hl 0 rfl) ?_
  refine lv_iconst (v := 0) hx hb dX12_tellsBy_1 (by decide) ?_
  refine pt12_50 C hK hW (rfl : shM 0 = 12) (List.mem_cons_of_mem _ mw711) (fun _ h9 => List.mem_cons_of_mem _ (inU_wsX120 _ h9)) isZ_0 dX12_tellsBy_2 (fun h1 H locs eh1 hW => ?_)
  have hq := hq h1 eh1
  refine lv_aload_n hx hb dX12_tellsBy_5 rfl (lv_at hl 0 rfl) ?_
  refine gt12_35 C hK hW (rfl : shM 0 = 12) (List.mem_cons_of_mem _ mw285) (fun _ h9 => List.mem_cons_of_mem _ (inU_wsX120 _ h9)) dX12_tellsBy_6 ?_
  refine lv_iload_n hx hb dX12_tellsBy_9 rfl (lv_at hl 1 rfl) ?_
  refine k_iald C hK hW (shM_lt (rfl : shM 22 = 14) (by decide)) (ceM_14 (rfl : shM 22 = 14) (rfl : lnM 22 = 4)) hq.1 dX12_tellsBy_10 ?_
  have hq := hq.2
  refine lv_topi (fun x2_2 ex2_2 => ?_)
  have hq := hq x2_2 ex2_2
  refine lv_istore_n (lv' := [(2, .int x2_2), (0, .ref (G.2.2 0)), (1, .int x1)]) hx hb dX12_tellsBy_11 rfl hl (by decide) rfl (fun ls hl => ?_)
  exact k_X12_tellsBy_12 C hK hW (lv_sub hl [1, 2, 0] rfl) hq
theorem c_X12_tellsBy (l : Launch) (G : wG) (h : hp) (x1 : Int32) (Q : Int32 → hp → Prop) (hq : w_X12_tellsBy h x1 Q) : ctI l SM G yX12_tellsBy wUX12_tellsBy rmX12_tellsBy h [.ref (G.2.2 0), .int x1] Q := by
  refine k_start (cc := cX12_tellsBy) (maxL := 5) (rt := (some .int)) (own := RX12) (by decide +kernel) rfl rfl (Nat.le_of_ble_eq_true rfl) ?_
  intro p e s m below meth c ls C hK hW hl
  exact k_X12_tellsBy_0 C hK hW hl hq
theorem k_X12_notes_0 {Q : hp → Prop} {x1 : Int32} {h : hp} (C : kC p s m args meth c cX12_notes 2 none RX12 wUX12_notes) (hK : kK G s) {H : Heap} {locs : List Loc} {ls : Array Slot} (hW : kW SM G h (aS SM G) s H locs) (hl : lv_has ls 2 [(0, .ref (G.2.2 0)), (1, .int x1)]) (hq : w_X12_notes_0 Q x1 h) : W p l e rmX12_notes s m args below meth c H locs 0 0 (MQ below (va_Qv Q (kB SM G) (aS SM G)) args s 0 0 (aS SM G)) (F0 m 0 ls []) := by
  have hx := C.1
  have hb := C.2.1
  unfold w_X12_notes_0 at hq
  refine lv_aload_n hx hb dX12_notes_0 rfl (lv_at hl 0 rfl) ?_
  refine gt12_21 C hK hW (rfl : shM 0 = 12) (List.mem_cons_of_mem _ mw271) (fun _ h9 => List.mem_cons_of_mem _ (inU_wsX120 _ h9)) dX12_notes_1 ?_
  refine lv_aload_n hx hb dX12_notes_4 rfl (lv_at hl 0 rfl) ?_
  refine gt12_20 C hK hW (rfl : shM 0 = 12) (List.mem_cons_of_mem _ mw612) (fun _ h9 => List.mem_cons_of_mem _ (inU_wsX120 _ h9)) dX12_notes_5 ?_
  refine lv_aload_n hx hb dX12_notes_8 rfl (lv_at hl 0 rfl) ?_
  refine gt12_8 C hK hW (rfl : shM 0 = 12) (List.mem_cons_of_mem _ mw268) (fun _ h9 => List.mem_cons_of_mem _ (inU_wsX120 _ h9)) dX12_notes_9 ?_
  refine lv_iload_n hx hb dX12_notes_12 rfl (lv_at hl 1 rfl) ?_
  refine k_lald C hK hW (shM_lt (rfl : shM 6 = 15) (by decide)) (ceM_15 (rfl : shM 6 = 15) (rfl : lnM 6 = 403)) hq.1 dX12_notes_13 ?_
  have hq := hq.2
  refine k_last okM C hK hW (shM_lt (rfl : shM 8 = 15) (by decide)) (fun g9 => ceM_15 (rfl : shM 8 = 15) (rfl : lnM 8 = 6)) hq.1 dX12_notes_14 (fun H locs hW => ?_)
  have hq := hq.2
  obtain ⟨h1, eh1⟩ : ∃ z : hp, z = sL h 8 (ix (gI h 0 20)) (gL h 6 (ix x1)) := ⟨_, rfl⟩
  rw [← eh1] at hW
  have hq := hq h1 eh1
  refine lv_aload_n hx hb dX12_notes_15 rfl (lv_at hl 0 rfl) ?_
  refine lv_dup hx hb dX12_notes_16 rfl ?_
  refine gt12_20 C hK hW (rfl : shM 0 = 12) (List.mem_cons_of_mem _ mw612) (fun _ h9 => List.mem_cons_of_mem _ (inU_wsX120 _ h9)) dX12_notes_17 ?_
  refine lv_iconst (v := 1) hx hb dX12_notes_20 (by decide) ?_
  refine lv_iadd hx hb dX12_notes_21 ?_
  refine pt12_20 C hK hW (rfl : shM 0 = 12) (List.mem_cons_of_mem _ mw612) (fun _ h9 => List.mem_cons_of_mem _ (inU_wsX120 _ h9)) dX12_notes_22 (fun h2 H locs eh2 hW => ?_)
  have hq := hq h2 eh2
  refine lv_aload_n hx hb dX12_notes_25 rfl (lv_at hl 0 rfl) ?_
  refine gt12_22 C hK hW (rfl : shM 0 = 12) (List.mem_cons_of_mem _ mw272) (fun _ h9 => List.mem_cons_of_mem _ (inU_wsX120 _ h9)) dX12_notes_26 ?_
  refine lv_aload_n hx hb dX12_notes_29 rfl (lv_at hl 0 rfl) ?_
  refine gt12_19 C hK hW (rfl : shM 0 = 12) (List.mem_cons_of_mem _ mw611) (fun _ h9 => List.mem_cons_of_mem _ (inU_wsX120 _ h9)) dX12_notes_30 ?_
  refine lv_dup2_11 hx hb dX12_notes_33 rfl rfl ?_
  refine k_iald C hK hW (shM_lt (rfl : shM 9 = 14) (by decide)) (ceM_14 (rfl : shM 9 = 14) (rfl : lnM 9 = 2)) hq.1 dX12_notes_34 ?_
  have hq := hq.2
  refine lv_iconst (v := 1) hx hb dX12_notes_35 (by decide) ?_
  refine lv_iadd hx hb dX12_notes_36 ?_
  refine k_iast okM C hK hW (shM_lt (rfl : shM 9 = 14) (by decide)) (fun g9 => ceM_14 (rfl : shM 9 = 14) (rfl : lnM 9 = 2)) hq.1 dX12_notes_37 (fun H locs hW => ?_)
  have hq := hq.2
  obtain ⟨h3, eh3⟩ : ∃ z : hp, z = sI h2 9 (ix (gI h2 0 19)) ((gI h2 9 (ix (gI h2 0 19))) + 1) := ⟨_, rfl⟩
  rw [← eh3] at hW
  have hq := hq h3 eh3
  exact k_vret rfl C hW dX12_notes_38 hq
theorem c_X12_notes (l : Launch) (G : wG) (h : hp) (x1 : Int32) (Q : hp → Prop) (hq : w_X12_notes h x1 Q) : ctV l SM G yX12_notes wUX12_notes rmX12_notes h [.ref (G.2.2 0), .int x1] Q := by
  refine k_start (cc := cX12_notes) (maxL := 2) (rt := none) (own := RX12) (by decide +kernel) rfl rfl (Nat.le_of_ble_eq_true rfl) ?_
  intro p e s m below meth c ls C hK hW hl
  exact k_X12_notes_0 C hK hW hl hq
theorem k_X12_tellRow_141 {Q : hp → Prop} {X91 : Int32 × hp → Prop} {x1 : Int32} {x2 : Int32} {x3 : Int32} {x4 : Int32} {h : hp} {s0 : Int32} {s1 : Int32} (C : kC p s m args meth c cX12_tellRow 5 none RX12 wUX12_tellRow) (hK : kK G s) (hX91 : ∀ (x4 : Int32) (h : hp) (H : Heap) (locs : List Loc) (ls : Array Slot), kW SM G h (aS SM G) s H locs → lv_has ls 5 [(0, .ref (G.2.2 0)), (1, .int x1), (2, .int x2), (3, .int x3), (4, .int x4)] → X91 (x4, h) → W p l e rmX12_tellRow s m args below meth c H locs 0 0 (MQ below (va_Qv Q (kB SM G) (aS SM G)) args s 0 0 (aS SM G)) (F0 m 91 ls [])) {H : Heap} {locs : List Loc} {ls : Array Slot} (hW : kW SM G h (aS SM G) s H locs) (hl : lv_has ls 5 [(0, .ref (G.2.2 0)), (1, .int x1), (2, .int x2), (3, .int x3), (4, .int x4)]) (hq : w_X12_tellRow_141 Q X91 x1 x2 x3 x4 h s0 s1) : W p l e rmX12_tellRow s m args below meth c H locs 0 0 (MQ below (va_Qv Q (kB SM G) (aS SM G)) args s 0 0 (aS SM G)) (F0 m 141 ls [.int s0, .int s1, .ref (G.2.2 32)]) := by
  have hx := C.1
  have hb := C.2.1
  unfold w_X12_tellRow_141 at hq
  refine k_iast okM C hK hW (shM_lt (rfl : shM 32 = 14) (by decide)) (fun g9 => ceM_14 (rfl : shM 32 = 14) (rfl : lnM 32 = 6)) hq.1 dX12_tellRow_141 (fun H locs hW => ?_)
  have hq := hq.2
  obtain ⟨h18, eh18⟩ : ∃ z : hp, z = sI h 32 (ix s1) s0 := ⟨_, rfl⟩
  rw [← eh18] at hW
  have hq := hq h18 eh18
  refine lv_aload_n hx hb dX12_tellRow_142 rfl (lv_at hl 0 rfl) ?_
  refine gt12_48 C hK hW (rfl : shM 0 = 12) (List.mem_cons_of_mem _ mw296) (fun _ h9 => List.mem_cons_of_mem _ (inU_wsX120 _ h9)) dX12_tellRow_143 ?_
  refine lv_iconst (v := 2) hx hb dX12_tellRow_146 (by decide) ?_
  refine lv_iload_n hx hb dX12_tellRow_147 rfl (lv_at hl 3 rfl) ?_
  refine k_iast okM C hK hW (shM_lt (rfl : shM 32 = 14) (by decide)) (fun g9 => ceM_14 (rfl : shM 32 = 14) (rfl : lnM 32 = 6)) hq.1 dX12_tellRow_148 (fun H locs hW => ?_)
  have hq := hq.2
  obtain ⟨h19, eh19⟩ : ∃ z : hp, z = sI h18 32 (ix 2) x3 := ⟨_, rfl⟩
  rw [← eh19] at hW
  have hq := hq h19 eh19
  refine lv_aload_n hx hb dX12_tellRow_149 rfl (lv_at hl 0 rfl) ?_
  refine gt12_24 C hK hW (rfl : shM 0 = 12) (List.mem_cons_of_mem _ mw274) (fun _ h9 => List.mem_cons_of_mem _ (inU_wsX120 _ h9)) dX12_tellRow_150 ?_
  refine lv_bipush (v := 36) hx hb dX12_tellRow_153 (by decide) ?_
  refine lv_aload_n hx hb dX12_tellRow_155 rfl (lv_at hl 0 rfl) ?_
  refine gt12_19 C hK hW (rfl : shM 0 = 12) (List.mem_cons_of_mem _ mw611) (fun _ h9 => List.mem_cons_of_mem _ (inU_wsX120 _ h9)) dX12_tellRow_156 ?_
  refine lv_imul hx hb dX12_tellRow_159 ?_
  refine lv_bipush (v := 6) hx hb dX12_tellRow_160 (by decide) ?_
  refine lv_iload_n hx hb dX12_tellRow_162 rfl (lv_at hl 1 rfl) ?_
  refine lv_imul hx hb dX12_tellRow_163 ?_
  refine lv_iadd hx hb dX12_tellRow_164 ?_
  refine lv_iload hx hb dX12_tellRow_165 (lv_at hl 4 rfl) ?_
  refine lv_iadd hx hb dX12_tellRow_167 ?_
  refine lv_aload_n hx hb dX12_tellRow_168 rfl (lv_at hl 0 rfl) ?_
  refine lv_iconst (v := 2) hx hb dX12_tellRow_169 (by decide) ?_
  refine lv_aload_n hx hb dX12_tellRow_170 rfl (lv_at hl 0 rfl) ?_
  refine gt12_19 C hK hW (rfl : shM 0 = 12) (List.mem_cons_of_mem _ mw611) (fun _ h9 => List.mem_cons_of_mem _ (inU_wsX120 _ h9)) dX12_tellRow_171 ?_
  refine lv_imul hx hb dX12_tellRow_174 ?_
  refine lv_iconst (v := 1) hx hb dX12_tellRow_175 (by decide) ?_
  refine lv_iadd hx hb dX12_tellRow_176 ?_
  refine k_ci hW (va_runV (As := [.int ((2 * (gI h19 0 19)) + 1)]) (rest := [.int (((36 * (gI h19 0 19)) + (6 * x1)) + x4), .ref (G.2.2 11)]) (k_fix C) (c_X12_tellsBy l G h19 ((2 * (gI h19 0 19)) + 1) _ hq) (cwV 1 C.2.2.2.2.2.1 (gU_V mw707 mw708 mw709 mw5 mw710) rfl rfl rfl (by decide +kernel) ⟨Nat.le_of_ble_eq_true rfl, Nat.le_of_ble_eq_true rfl⟩) (k_preV hK hW (shM_lt (rfl : shM 0 = 12) (by decide)) (ceM_12 (rfl : shM 0 = 12)) (q := (RX12, TX12, 73)) rfl) rfl rfl hl.1 rfl (lv_room (Nat.le_of_ble_eq_true rfl)) dX12_tellRow_177 ⟨Nat.le_refl 0, Nat.le_refl 0⟩) (fun r21 h20 H locs hq hW => ?_)
  refine k_iast okM C hK hW (shM_lt (rfl : shM 11 = 14) (by decide)) (fun g9 => ceM_14 (rfl : shM 11 = 14) (rfl : lnM 11 = 72)) hq.1 dX12_tellRow_180 (fun H locs hW => ?_)
  have hq := hq.2
  obtain ⟨h22, eh22⟩ : ∃ z : hp, z = sI h20 11 (ix (((36 * (gI h19 0 19)) + (6 * x1)) + x4)) r21 := ⟨_, rfl⟩
  rw [← eh22] at hW
  have hq := hq h22 eh22
  obtain ⟨x4_23, ex4_23⟩ : ∃ y : Int32, y = x4 + 1 := ⟨_, rfl⟩
  have hq := hq x4_23 ex4_23
  refine lv_iinc (v := x4_23) (lv' := [(4, .int x4_23), (0, .ref (G.2.2 0)), (1, .int x1), (2, .int x2), (3, .int x3)]) hx hb dX12_tellRow_181 hl (k := 4) rfl (by rw [ex4_23]; rfl) (by decide) rfl (fun ls hl => ?_)
  refine lv_goto (tgt := 91) hx hb dX12_tellRow_184 (by decide) ?_
  exact hX91 _ _ _ _ _ hW (lv_sub hl [1, 2, 3, 4, 0] rfl) hq
theorem k_X12_tellRow_b91 {Q : hp → Prop} {X91 : Int32 × hp → Prop} {x1 : Int32} {x2 : Int32} {x3 : Int32} (C : kC p s m args meth c cX12_tellRow 5 none RX12 wUX12_tellRow) (hK : kK G s) (hX91 : ∀ (x4 : Int32) (h : hp) (H : Heap) (locs : List Loc) (ls : Array Slot), kW SM G h (aS SM G) s H locs → lv_has ls 5 [(0, .ref (G.2.2 0)), (1, .int x1), (2, .int x2), (3, .int x3), (4, .int x4)] → X91 (x4, h) → W p l e rmX12_tellRow s m args below meth c H locs 0 0 (MQ below (va_Qv Q (kB SM G) (aS SM G)) args s 0 0 (aS SM G)) (F0 m 91 ls [])) {x4 : Int32} {h : hp} {H : Heap} {locs : List Loc} {ls : Array Slot} (hW : kW SM G h (aS SM G) s H locs) (hl : lv_has ls 5 [(0, .ref (G.2.2 0)), (1, .int x1), (2, .int x2), (3, .int x3), (4, .int x4)]) (hq : w_X12_tellRow_b91 Q x1 x2 x3 X91 x4 h) : W p l e rmX12_tellRow s m args below meth c H locs 0 0 (MQ below (va_Qv Q (kB SM G) (aS SM G)) args s 0 0 (aS SM G)) (F0 m 91 ls []) := by
  have hx := C.1
  have hb := C.2.1
  unfold w_X12_tellRow_b91 at hq
  refine lv_iload hx hb dX12_tellRow_91 (lv_at hl 4 rfl) ?_
  refine lv_iload_n hx hb dX12_tellRow_93 rfl (lv_at hl 3 rfl) ?_
  refine lv_icmp_ge (tgt := 187) hx hb dX12_tellRow_94 (by decide) (fun c14 => ?_) (fun c14 => ?_)
  · have hq := hq.1 c14
    refine lv_aload_n hx hb dX12_tellRow_187 rfl (lv_at hl 0 rfl) ?_
    refine lv_iload_n hx hb dX12_tellRow_188 rfl (lv_at hl 2 rfl) ?_
    refine k_cv hW (va_runV (As := [.int x2]) (rest := []) (k_fix C) (c_X12_notes l G h x2 _ hq) (cwV 1 C.2.2.2.2.2.1 (gU_V mw716 mw717 mw718 mw5 mw719) rfl rfl rfl (by decide +kernel) ⟨Nat.le_of_ble_eq_true rfl, Nat.le_of_ble_eq_true rfl⟩) (k_preV hK hW (shM_lt (rfl : shM 0 = 12) (by decide)) (ceM_12 (rfl : shM 0 = 12)) (q := (RX12, TX12, 73)) rfl) rfl rfl hl.1 rfl (lv_room (Nat.le_of_ble_eq_true rfl)) dX12_tellRow_189 ⟨Nat.le_refl 0, Nat.le_refl 0⟩) (fun h15 H locs hq hW => ?_)
    exact k_vret rfl C hW dX12_tellRow_192 hq
  · have hq := hq.2 c14
    refine lv_aload_n hx hb dX12_tellRow_97 rfl (lv_at hl 0 rfl) ?_
    refine gt12_48 C hK hW (rfl : shM 0 = 12) (List.mem_cons_of_mem _ mw296) (fun _ h9 => List.mem_cons_of_mem _ (inU_wsX120 _ h9)) dX12_tellRow_98 ?_
    refine lv_iconst (v := 0) hx hb dX12_tellRow_101 (by decide) ?_
    refine lv_iload hx hb dX12_tellRow_102 (lv_at hl 4 rfl) ?_
    refine k_iast okM C hK hW (shM_lt (rfl : shM 32 = 14) (by decide)) (fun g9 => ceM_14 (rfl : shM 32 = 14) (rfl : lnM 32 = 6)) hq.1 dX12_tellRow_104 (fun H locs hW => ?_)
    have hq := hq.2
    obtain ⟨h16, eh16⟩ : ∃ z : hp, z = sI h 32 (ix 0) x4 := ⟨_, rfl⟩
    rw [← eh16] at hW
    have hq := hq h16 eh16
    refine lv_aload_n hx hb dX12_tellRow_105 rfl (lv_at hl 0 rfl) ?_
    refine gt12_48 C hK hW (rfl : shM 0 = 12) (List.mem_cons_of_mem _ mw296) (fun _ h9 => List.mem_cons_of_mem _ (inU_wsX120 _ h9)) dX12_tellRow_106 ?_
    refine lv_iconst (v := 1) hx hb dX12_tellRow_109 (by decide) ?_
    refine lv_iload hx hb dX12_tellRow_110 (lv_at hl 4 rfl) ?_
    refine lv_if_ne (tgt := 119) hx hb dX12_tellRow_112 (by decide) (fun c17 => ?_) (fun c17 => ?_)
    · have hq := hq.1 c17
      refine lv_aload_n hx hb dX12_tellRow_119 rfl (lv_at hl 0 rfl) ?_
      refine gt12_24 C hK hW (rfl : shM 0 = 12) (List.mem_cons_of_mem _ mw274) (fun _ h9 => List.mem_cons_of_mem _ (inU_wsX120 _ h9)) dX12_tellRow_120 ?_
      refine lv_bipush (v := 36) hx hb dX12_tellRow_123 (by decide) ?_
      refine lv_aload_n hx hb dX12_tellRow_125 rfl (lv_at hl 0 rfl) ?_
      refine gt12_19 C hK hW (rfl : shM 0 = 12) (List.mem_cons_of_mem _ mw611) (fun _ h9 => List.mem_cons_of_mem _ (inU_wsX120 _ h9)) dX12_tellRow_126 ?_
      refine lv_imul hx hb dX12_tellRow_129 ?_
      refine lv_bipush (v := 6) hx hb dX12_tellRow_130 (by decide) ?_
      refine lv_iload_n hx hb dX12_tellRow_132 rfl (lv_at hl 1 rfl) ?_
      refine lv_imul hx hb dX12_tellRow_133 ?_
      refine lv_iadd hx hb dX12_tellRow_134 ?_
      refine lv_iload hx hb dX12_tellRow_135 (lv_at hl 4 rfl) ?_
      refine lv_iadd hx hb dX12_tellRow_137 ?_
      refine lv_iconst (v := 1) hx hb dX12_tellRow_138 (by decide) ?_
      refine lv_isub hx hb dX12_tellRow_139 ?_
      refine k_iald C hK hW (shM_lt (rfl : shM 11 = 14) (by decide)) (ceM_14 (rfl : shM 11 = 14) (rfl : lnM 11 = 72)) hq.1 dX12_tellRow_140 ?_
      have hq := hq.2
      exact k_X12_tellRow_141 C hK hX91 hW (lv_sub hl [0, 1, 2, 3, 4] rfl) hq
    · have hq := hq.2 c17
      refine lv_iconst (v := 0) hx hb dX12_tellRow_115 (by decide) ?_
      refine lv_goto (tgt := 141) hx hb dX12_tellRow_116 (by decide) ?_
      exact k_X12_tellRow_141 C hK hX91 hW (lv_sub hl [0, 1, 2, 3, 4] rfl) hq
theorem k_X12_tellRow_91 {Q : hp → Prop} {x1 : Int32} {x2 : Int32} {x3 : Int32} (C : kC p s m args meth c cX12_tellRow 5 none RX12 wUX12_tellRow) (hK : kK G s) {x4 : Int32} {h : hp} {H : Heap} {locs : List Loc} {ls : Array Slot} (hW : kW SM G h (aS SM G) s H locs) (hl : lv_has ls 5 [(0, .ref (G.2.2 0)), (1, .int x1), (2, .int x2), (3, .int x3), (4, .int x4)]) (hq : w_X12_tellRow_91 Q x1 x2 x3 x4 h) : W p l e rmX12_tellRow s m args below meth c H locs 0 0 (MQ below (va_Qv Q (kB SM G) (aS SM G)) args s 0 0 (aS SM G)) (F0 m 91 ls []) := by
  have key := hq (fun (q : Int32 × hp) => ∀ (H : Heap) (locs : List Loc) (ls : Array Slot), kW SM G q.2 (aS SM G) s H locs → lv_has ls 5 [(0, .ref (G.2.2 0)), (1, .int x1), (2, .int x2), (3, .int x3), (4, .int q.1)] → W p l e rmX12_tellRow s m args below meth c H locs 0 0 (MQ below (va_Qv Q (kB SM G) (aS SM G)) args s 0 0 (aS SM G)) (F0 m 91 ls []))
    (fun q hq H locs ls hW hl => k_X12_tellRow_b91 C hK (fun x4 h H locs ls hW hl hI => hI H locs ls hW hl) hW hl hq)
  exact key _ _ _ hW hl
theorem k_X12_tellRow_b67 {Q : hp → Prop} {X67 : Int32 × hp → Prop} {x1 : Int32} {x2 : Int32} {x3 : Int32} (C : kC p s m args meth c cX12_tellRow 5 none RX12 wUX12_tellRow) (hK : kK G s) (hX67 : ∀ (x4 : Int32) (h : hp) (H : Heap) (locs : List Loc) (ls : Array Slot), kW SM G h (aS SM G) s H locs → lv_has ls 5 [(0, .ref (G.2.2 0)), (1, .int x1), (2, .int x2), (3, .int x3), (4, .int x4)] → X67 (x4, h) → W p l e rmX12_tellRow s m args below meth c H locs 0 0 (MQ below (va_Qv Q (kB SM G) (aS SM G)) args s 0 0 (aS SM G)) (F0 m 67 ls [])) {x4 : Int32} {h : hp} {H : Heap} {locs : List Loc} {ls : Array Slot} (hW : kW SM G h (aS SM G) s H locs) (hl : lv_has ls 5 [(0, .ref (G.2.2 0)), (1, .int x1), (2, .int x2), (3, .int x3), (4, .int x4)]) (hq : w_X12_tellRow_b67 Q x1 x2 x3 X67 x4 h) : W p l e rmX12_tellRow s m args below meth c H locs 0 0 (MQ below (va_Qv Q (kB SM G) (aS SM G)) args s 0 0 (aS SM G)) (F0 m 67 ls []) := by
  have hx := C.1
  have hb := C.2.1
  unfold w_X12_tellRow_b67 at hq
  refine lv_iload hx hb dX12_tellRow_67 (lv_at hl 4 rfl) ?_
  refine lv_bipush (v := 6) hx hb dX12_tellRow_69 (by decide) ?_
  refine lv_icmp_ge (tgt := 88) hx hb dX12_tellRow_71 (by decide) (fun c11 => ?_) (fun c11 => ?_)
  · have hq := hq.1 c11
    refine lv_iconst (v := 0) hx hb dX12_tellRow_88 (by decide) ?_
    refine lv_istore (lv' := [(4, .int 0), (0, .ref (G.2.2 0)), (1, .int x1), (2, .int x2), (3, .int x3)]) hx hb dX12_tellRow_89 hl (by decide) rfl (fun ls hl => ?_)
    exact k_X12_tellRow_91 C hK hW (lv_sub hl [1, 2, 3, 4, 0] rfl) hq
  · have hq := hq.2 c11
    refine lv_aload_n hx hb dX12_tellRow_74 rfl (lv_at hl 0 rfl) ?_
    refine gt12_48 C hK hW (rfl : shM 0 = 12) (List.mem_cons_of_mem _ mw296) (fun _ h9 => List.mem_cons_of_mem _ (inU_wsX120 _ h9)) dX12_tellRow_75 ?_
    refine lv_iload hx hb dX12_tellRow_78 (lv_at hl 4 rfl) ?_
    refine lv_iconst (v := 0) hx hb dX12_tellRow_80 (by decide) ?_
    refine k_iast okM C hK hW (shM_lt (rfl : shM 32 = 14) (by decide)) (fun g9 => ceM_14 (rfl : shM 32 = 14) (rfl : lnM 32 = 6)) hq.1 dX12_tellRow_81 (fun H locs hW => ?_)
    have hq := hq.2
    obtain ⟨h12, eh12⟩ : ∃ z : hp, z = sI h 32 (ix x4) 0 := ⟨_, rfl⟩
    rw [← eh12] at hW
    have hq := hq h12 eh12
    obtain ⟨x4_13, ex4_13⟩ : ∃ y : Int32, y = x4 + 1 := ⟨_, rfl⟩
    have hq := hq x4_13 ex4_13
    refine lv_iinc (v := x4_13) (lv' := [(4, .int x4_13), (0, .ref (G.2.2 0)), (1, .int x1), (2, .int x2), (3, .int x3)]) hx hb dX12_tellRow_82 hl (k := 4) rfl (by rw [ex4_13]; rfl) (by decide) rfl (fun ls hl => ?_)
    refine lv_goto (tgt := 67) hx hb dX12_tellRow_85 (by decide) ?_
    exact hX67 _ _ _ _ _ hW (lv_sub hl [1, 2, 3, 4, 0] rfl) hq
theorem k_X12_tellRow_67 {Q : hp → Prop} {x1 : Int32} {x2 : Int32} {x3 : Int32} (C : kC p s m args meth c cX12_tellRow 5 none RX12 wUX12_tellRow) (hK : kK G s) {x4 : Int32} {h : hp} {H : Heap} {locs : List Loc} {ls : Array Slot} (hW : kW SM G h (aS SM G) s H locs) (hl : lv_has ls 5 [(0, .ref (G.2.2 0)), (1, .int x1), (2, .int x2), (3, .int x3), (4, .int x4)]) (hq : w_X12_tellRow_67 Q x1 x2 x3 x4 h) : W p l e rmX12_tellRow s m args below meth c H locs 0 0 (MQ below (va_Qv Q (kB SM G) (aS SM G)) args s 0 0 (aS SM G)) (F0 m 67 ls []) := by
  have key := hq (fun (q : Int32 × hp) => ∀ (H : Heap) (locs : List Loc) (ls : Array Slot), kW SM G q.2 (aS SM G) s H locs → lv_has ls 5 [(0, .ref (G.2.2 0)), (1, .int x1), (2, .int x2), (3, .int x3), (4, .int q.1)] → W p l e rmX12_tellRow s m args below meth c H locs 0 0 (MQ below (va_Qv Q (kB SM G) (aS SM G)) args s 0 0 (aS SM G)) (F0 m 67 ls []))
    (fun q hq H locs ls hW hl => k_X12_tellRow_b67 C hK (fun x4 h H locs ls hW hl hI => hI H locs ls hW hl) hW hl hq)
  exact key _ _ _ hW hl
theorem k_X12_tellRow_49 {Q : hp → Prop} {x1 : Int32} {x2 : Int32} {x3 : Int32} {h : hp} (C : kC p s m args meth c cX12_tellRow 5 none RX12 wUX12_tellRow) (hK : kK G s) {H : Heap} {locs : List Loc} {ls : Array Slot} (hW : kW SM G h (aS SM G) s H locs) (hl : lv_has ls 5 [(0, .ref (G.2.2 0)), (1, .int x1), (2, .int x2), (3, .int x3)]) (hq : w_X12_tellRow_49 Q x1 x2 x3 h) : W p l e rmX12_tellRow s m args below meth c H locs 0 0 (MQ below (va_Qv Q (kB SM G) (aS SM G)) args s 0 0 (aS SM G)) (F0 m 49 ls []) := by
  have hx := C.1
  have hb := C.2.1
  unfold w_X12_tellRow_49 at hq
  refine lv_aload_n hx hb dX12_tellRow_49 rfl (lv_at hl 0 rfl) ?_
  refine gt12_23 C hK hW (rfl : shM 0 = 12) (List.mem_cons_of_mem _ mw273) (fun _ h9 => List.mem_cons_of_mem _ (inU_wsX120 _ h9)) dX12_tellRow_50 ?_
  refine lv_bipush (v := 6) hx hb dX12_tellRow_53 (by decide) ?_
  refine lv_aload_n hx hb dX12_tellRow_55 rfl (lv_at hl 0 rfl) ?_
  refine gt12_19 C hK hW (rfl : shM 0 = 12) (List.mem_cons_of_mem _ mw611) (fun _ h9 => List.mem_cons_of_mem _ (inU_wsX120 _ h9)) dX12_tellRow_56 ?_
  refine lv_imul hx hb dX12_tellRow_59 ?_
  refine lv_iload_n hx hb dX12_tellRow_60 rfl (lv_at hl 1 rfl) ?_
  refine lv_iadd hx hb dX12_tellRow_61 ?_
  refine lv_iload_n hx hb dX12_tellRow_62 rfl (lv_at hl 3 rfl) ?_
  refine k_iast okM C hK hW (shM_lt (rfl : shM 10 = 14) (by decide)) (fun g9 => ceM_14 (rfl : shM 10 = 14) (rfl : lnM 10 = 12)) hq.1 dX12_tellRow_63 (fun H locs hW => ?_)
  have hq := hq.2
  obtain ⟨h10, eh10⟩ : ∃ z : hp, z = sI h 10 (ix ((6 * (gI h 0 19)) + x1)) x3 := ⟨_, rfl⟩
  rw [← eh10] at hW
  have hq := hq h10 eh10
  refine lv_iconst (v := 0) hx hb dX12_tellRow_64 (by decide) ?_
  refine lv_istore (lv' := [(4, .int 0), (0, .ref (G.2.2 0)), (1, .int x1), (2, .int x2), (3, .int x3)]) hx hb dX12_tellRow_65 hl (by decide) rfl (fun ls hl => ?_)
  exact k_X12_tellRow_67 C hK hW (lv_sub hl [1, 2, 3, 4, 0] rfl) hq
theorem k_X12_tellRow_0 {Q : hp → Prop} {h : hp} (C : kC p s m args meth c cX12_tellRow 5 none RX12 wUX12_tellRow) (hK : kK G s) {H : Heap} {locs : List Loc} {ls : Array Slot} (hW : kW SM G h (aS SM G) s H locs) (hl : lv_has ls 5 [(0, .ref (G.2.2 0))]) (hq : w_X12_tellRow_0 Q h) : W p l e rmX12_tellRow s m args below meth c H locs 0 0 (MQ below (va_Qv Q (kB SM G) (aS SM G)) args s 0 0 (aS SM G)) (F0 m 0 ls []) := by
  have hx := C.1
  have hb := C.2.1
  unfold w_X12_tellRow_0 at hq
  refine lv_aload_n hx hb dX12_tellRow_0 rfl (lv_at hl 0 rfl) ?_
  refine gt12_22 C hK hW (rfl : shM 0 = 12) (List.mem_cons_of_mem _ mw272) (fun _ h9 => List.mem_cons_of_mem _ (inU_wsX120 _ h9)) dX12_tellRow_1 ?_
  refine lv_aload_n hx hb dX12_tellRow_4 rfl (lv_at hl 0 rfl) ?_
  refine gt12_19 C hK hW (rfl : shM 0 = 12) (List.mem_cons_of_mem _ mw611) (fun _ h9 => List.mem_cons_of_mem _ (inU_wsX120 _ h9)) dX12_tellRow_5 ?_
  refine k_iald C hK hW (shM_lt (rfl : shM 9 = 14) (by decide)) (ceM_14 (rfl : shM 9 = 14) (rfl : lnM 9 = 2)) hq.1 dX12_tellRow_8 ?_
  have hq := hq.2
  refine lv_topi (fun x1_1 ex1_1 => ?_)
  have hq := hq x1_1 ex1_1
  refine lv_istore_n (lv' := [(1, .int x1_1), (0, .ref (G.2.2 0))]) hx hb dX12_tellRow_9 rfl hl (by decide) rfl (fun ls hl => ?_)
  refine lv_aload_n hx hb dX12_tellRow_10 rfl (lv_at hl 1 rfl) ?_
  refine k_ci hW (va_runV (As := []) (rest := []) (k_fix C) (c_X12_named l G h _ hq) (cwV 0 C.2.2.2.2.2.1 (gU_V mw666 mw667 mw668 mw5 mw669) rfl rfl rfl (by decide +kernel) ⟨Nat.le_of_ble_eq_true rfl, Nat.le_of_ble_eq_true rfl⟩) (k_preV hK hW (shM_lt (rfl : shM 0 = 12) (by decide)) (ceM_12 (rfl : shM 0 = 12)) (q := (RX12, TX12, 73)) rfl) rfl rfl hl.1 rfl (lv_room (Nat.le_of_ble_eq_true rfl)) dX12_tellRow_11 ⟨Nat.le_refl 0, Nat.le_refl 0⟩) (fun r3 h2 H locs hq hW => ?_)
  refine lv_istore_n (lv' := [(2, .int r3), (1, .int x1_1), (0, .ref (G.2.2 0))]) hx hb dX12_tellRow_14 rfl hl (by decide) rfl (fun ls hl => ?_)
  refine lv_aload_n hx hb dX12_tellRow_15 rfl (lv_at hl 2 rfl) ?_
  refine lv_iconst (v := 1) hx hb dX12_tellRow_16 (by decide) ?_
  refine lv_bipush (v := 6) hx hb dX12_tellRow_17 (by decide) ?_
  refine k_ci hW (va_runV (As := [.int 1, .int 6]) (rest := []) (k_fix C) (c_X12_bounded l G h2 1 6 _ hq) (cwV 2 C.2.2.2.2.2.1 (gU_V mw678 mw679 mw680 mw5 mw681) rfl rfl rfl (by decide +kernel) ⟨Nat.le_of_ble_eq_true rfl, Nat.le_of_ble_eq_true rfl⟩) (k_preV hK hW (shM_lt (rfl : shM 0 = 12) (by decide)) (ceM_12 (rfl : shM 0 = 12)) (q := (RX12, TX12, 73)) rfl) rfl rfl hl.1 rfl (lv_room (Nat.le_of_ble_eq_true rfl)) dX12_tellRow_19 ⟨Nat.le_refl 0, Nat.le_refl 0⟩) (fun r5 h4 H locs hq hW => ?_)
  refine lv_istore_n (lv' := [(3, .int r5), (2, .int r3), (1, .int x1_1), (0, .ref (G.2.2 0))]) hx hb dX12_tellRow_22 rfl hl (by decide) rfl (fun ls hl => ?_)
  refine lv_aload_n hx hb dX12_tellRow_23 rfl (lv_at hl 3 rfl) ?_
  refine lv_iconst (v := 1) hx hb dX12_tellRow_24 (by decide) ?_
  refine k_cv hW (va_runV (As := [.int 1]) (rest := []) (k_fix C) (c_X12_tellLaw l G h4 1 _ hq) (cwV 1 C.2.2.2.2.2.1 (gU_V mw682 mw683 mw684 mw5 mw685) rfl rfl rfl (by decide +kernel) ⟨Nat.le_of_ble_eq_true rfl, Nat.le_of_ble_eq_true rfl⟩) (k_preV hK hW (shM_lt (rfl : shM 0 = 12) (by decide)) (ceM_12 (rfl : shM 0 = 12)) (q := (RX12, TX12, 73)) rfl) rfl rfl hl.1 rfl (lv_room (Nat.le_of_ble_eq_true rfl)) dX12_tellRow_25 ⟨Nat.le_refl 0, Nat.le_refl 0⟩) (fun h6 H locs hq hW => ?_)
  refine lv_aload_n hx hb dX12_tellRow_28 rfl (lv_at hl 3 rfl) ?_
  refine gt12_13 C hK hW (rfl : shM 0 = 12) (List.mem_cons_of_mem _ mw608) (fun _ h9 => List.mem_cons_of_mem _ (inU_wsX120 _ h9)) dX12_tellRow_29 ?_
  refine lv_if_le (tgt := 36) hx hb dX12_tellRow_32 (by decide) (fun c7 => ?_) (fun c7 => ?_)
  · have hq := hq.1 c7
    refine lv_iload_n hx hb dX12_tellRow_36 rfl (lv_at hl 0 rfl) ?_
    refine lv_iconst (v := 1) hx hb dX12_tellRow_37 (by decide) ?_
    refine lv_icmp_lt (tgt := 47) hx hb dX12_tellRow_38 (by decide) (fun c8 => ?_) (fun c8 => ?_)
    · have hq := hq.1 c8
      refine lv_iconst (v := 0) hx hb dX12_tellRow_47 (by decide) ?_
      refine lv_istore_n (lv' := [(3, .int 0), (2, .int r3), (1, .int x1_1), (0, .ref (G.2.2 0))]) hx hb dX12_tellRow_48 rfl hl (by decide) rfl (fun ls hl => ?_)
      exact k_X12_tellRow_49 C hK hW (lv_sub hl [3, 2, 1, 0] rfl) hq
    · have hq := hq.2 c8
      refine lv_iload_n hx hb dX12_tellRow_41 rfl (lv_at hl 0 rfl) ?_
      refine lv_bipush (v := 6) hx hb dX12_tellRow_42 (by decide) ?_
      refine lv_icmp_le (tgt := 49) hx hb dX12_tellRow_44 (by decide) (fun c9 => ?_) (fun c9 => ?_)
      · have hq := hq.1 c9
        exact k_X12_tellRow_49 C hK hW (lv_sub hl [3, 2, 1, 0] rfl) hq
      · have hq := hq.2 c9
        refine lv_iconst (v := 0) hx hb dX12_tellRow_47 (by decide) ?_
        refine lv_istore_n (lv' := [(3, .int 0), (2, .int r3), (1, .int x1_1), (0, .ref (G.2.2 0))]) hx hb dX12_tellRow_48 rfl hl (by decide) rfl (fun ls hl => ?_)
        exact k_X12_tellRow_49 C hK hW (lv_sub hl [3, 2, 1, 0] rfl) hq
  · have hq := hq.2 c7
    exact k_vret rfl C hW dX12_tellRow_35 hq
theorem c_X12_tellRow (l : Launch) (G : wG) (h : hp) (Q : hp → Prop) (hq : w_X12_tellRow h Q) : ctV l SM G yX12_tellRow wUX12_tellRow rmX12_tellRow h [.ref (G.2.2 0)] Q := by
  refine k_start (cc := cX12_tellRow) (maxL := 5) (rt := none) (own := RX12) (by decide +kernel) rfl rfl (Nat.le_of_ble_eq_true rfl) ?_
  intro p e s m below meth c ls C hK hW hl
  exact k_X12_tellRow_0 C hK hW hl hq
theorem k_X12_tellList_133 {Q : hp → Prop} {X17 : Int32 × hp → Prop} {x1 : Int32} {x2 : Int32} {x3 : Int32} {h : hp} {s0 : Int32} {s1 : Int32} (C : kC p s m args meth c cX12_tellList 6 none RX12 wUX12_tellList) (hK : kK G s) (hX17 : ∀ (x3 : Int32) (h : hp) (H : Heap) (locs : List Loc) (ls : Array Slot), kW SM G h (aS SM G) s H locs → lv_has ls 6 [(0, .ref (G.2.2 0)), (1, .int x1), (2, .int x2), (3, .int x3)] → X17 (x3, h) → W p l e rmX12_tellList s m args below meth c H locs 0 0 (MQ below (va_Qv Q (kB SM G) (aS SM G)) args s 0 0 (aS SM G)) (F0 m 17 ls [])) {H : Heap} {locs : List Loc} {ls : Array Slot} (hW : kW SM G h (aS SM G) s H locs) (hl : lv_has ls 6 [(0, .ref (G.2.2 0)), (1, .int x1), (2, .int x2), (3, .int x3)]) (hq : w_X12_tellList_133 Q X17 x1 x2 x3 h s0 s1) : W p l e rmX12_tellList s m args below meth c H locs 0 0 (MQ below (va_Qv Q (kB SM G) (aS SM G)) args s 0 0 (aS SM G)) (F0 m 133 ls [.int s0, .int s1, .ref (G.2.2 11)]) := by
  have hx := C.1
  have hb := C.2.1
  unfold w_X12_tellList_133 at hq
  refine k_iast okM C hK hW (shM_lt (rfl : shM 11 = 14) (by decide)) (fun g9 => ceM_14 (rfl : shM 11 = 14) (rfl : lnM 11 = 72)) hq.1 dX12_tellList_133 (fun H locs hW => ?_)
  have hq := hq.2
  obtain ⟨h25, eh25⟩ : ∃ z : hp, z = sI h 11 (ix s1) s0 := ⟨_, rfl⟩
  rw [← eh25] at hW
  have hq := hq h25 eh25
  obtain ⟨x3_26, ex3_26⟩ : ∃ y : Int32, y = x3 + 1 := ⟨_, rfl⟩
  have hq := hq x3_26 ex3_26
  refine lv_iinc (v := x3_26) (lv' := [(3, .int x3_26), (0, .ref (G.2.2 0)), (1, .int x1), (2, .int x2)]) hx hb dX12_tellList_134 hl (k := 3) rfl (by rw [ex3_26]; rfl) (by decide) rfl (fun ls hl => ?_)
  refine lv_goto (tgt := 17) hx hb dX12_tellList_137 (by decide) ?_
  exact hX17 _ _ _ _ _ hW (lv_sub hl [1, 2, 3, 0] rfl) hq
theorem k_X12_tellList_77 {Q : hp → Prop} {X17 : Int32 × hp → Prop} {x1 : Int32} {x2 : Int32} {x3 : Int32} {x4 : Int32} {h : hp} (C : kC p s m args meth c cX12_tellList 6 none RX12 wUX12_tellList) (hK : kK G s) (hX17 : ∀ (x3 : Int32) (h : hp) (H : Heap) (locs : List Loc) (ls : Array Slot), kW SM G h (aS SM G) s H locs → lv_has ls 6 [(0, .ref (G.2.2 0)), (1, .int x1), (2, .int x2), (3, .int x3)] → X17 (x3, h) → W p l e rmX12_tellList s m args below meth c H locs 0 0 (MQ below (va_Qv Q (kB SM G) (aS SM G)) args s 0 0 (aS SM G)) (F0 m 17 ls [])) {H : Heap} {locs : List Loc} {ls : Array Slot} (hW : kW SM G h (aS SM G) s H locs) (hl : lv_has ls 6 [(0, .ref (G.2.2 0)), (1, .int x1), (2, .int x2), (3, .int x3), (4, .int x4)]) (hq : w_X12_tellList_77 Q X17 x1 x2 x3 x4 h) : W p l e rmX12_tellList s m args below meth c H locs 0 0 (MQ below (va_Qv Q (kB SM G) (aS SM G)) args s 0 0 (aS SM G)) (F0 m 77 ls []) := by
  have hx := C.1
  have hb := C.2.1
  unfold w_X12_tellList_77 at hq
  refine lv_aload_n hx hb dX12_tellList_77 rfl (lv_at hl 0 rfl) ?_
  refine gt12_13 C hK hW (rfl : shM 0 = 12) (List.mem_cons_of_mem _ mw608) (fun _ h9 => List.mem_cons_of_mem _ (inU_wsX120 _ h9)) dX12_tellList_78 ?_
  refine lv_if_le (tgt := 85) hx hb dX12_tellList_81 (by decide) (fun c20 => ?_) (fun c20 => ?_)
  · have hq := hq.1 c20
    refine lv_aload_n hx hb dX12_tellList_85 rfl (lv_at hl 0 rfl) ?_
    refine lv_iconst (v := 0) hx hb dX12_tellList_86 (by decide) ?_
    refine lv_bipush (v := 99) hx hb dX12_tellList_87 (by decide) ?_
    refine k_ci hW (va_runV (As := [.int 0, .int 99]) (rest := []) (k_fix C) (c_X12_bounded l G h 0 99 _ hq) (cwV 2 C.2.2.2.2.2.1 (gU_V mw678 mw679 mw680 mw5 mw681) rfl rfl rfl (by decide +kernel) ⟨Nat.le_of_ble_eq_true rfl, Nat.le_of_ble_eq_true rfl⟩) (k_preV hK hW (shM_lt (rfl : shM 0 = 12) (by decide)) (ceM_12 (rfl : shM 0 = 12)) (q := (RX12, TX12, 73)) rfl) rfl rfl hl.1 rfl (lv_room (Nat.le_of_ble_eq_true rfl)) dX12_tellList_89 ⟨Nat.le_refl 0, Nat.le_refl 0⟩) (fun r22 h21 H locs hq hW => ?_)
    refine lv_istore (lv' := [(5, .int r22), (0, .ref (G.2.2 0)), (1, .int x1), (2, .int x2), (3, .int x3), (4, .int x4)]) hx hb dX12_tellList_92 hl (by decide) rfl (fun ls hl => ?_)
    refine lv_aload_n hx hb dX12_tellList_94 rfl (lv_at hl 1 rfl) ?_
    refine gt12_13 C hK hW (rfl : shM 0 = 12) (List.mem_cons_of_mem _ mw608) (fun _ h9 => List.mem_cons_of_mem _ (inU_wsX120 _ h9)) dX12_tellList_95 ?_
    refine lv_if_le (tgt := 102) hx hb dX12_tellList_98 (by decide) (fun c23 => ?_) (fun c23 => ?_)
    · have hq := hq.1 c23
      refine lv_aload_n hx hb dX12_tellList_102 rfl (lv_at hl 1 rfl) ?_
      refine gt12_24 C hK hW (rfl : shM 0 = 12) (List.mem_cons_of_mem _ mw274) (fun _ h9 => List.mem_cons_of_mem _ (inU_wsX120 _ h9)) dX12_tellList_103 ?_
      refine lv_bipush (v := 36) hx hb dX12_tellList_106 (by decide) ?_
      refine lv_aload_n hx hb dX12_tellList_108 rfl (lv_at hl 1 rfl) ?_
      refine gt12_19 C hK hW (rfl : shM 0 = 12) (List.mem_cons_of_mem _ mw611) (fun _ h9 => List.mem_cons_of_mem _ (inU_wsX120 _ h9)) dX12_tellList_109 ?_
      refine lv_imul hx hb dX12_tellList_112 ?_
      refine lv_bipush (v := 6) hx hb dX12_tellList_113 (by decide) ?_
      refine lv_iload_n hx hb dX12_tellList_115 rfl (lv_at hl 2 rfl) ?_
      refine lv_imul hx hb dX12_tellList_116 ?_
      refine lv_iadd hx hb dX12_tellList_117 ?_
      refine lv_iload_n hx hb dX12_tellList_118 rfl (lv_at hl 4 rfl) ?_
      refine lv_iadd hx hb dX12_tellList_119 ?_
      refine lv_iload hx hb dX12_tellList_120 (lv_at hl 5 rfl) ?_
      refine lv_if_eq (tgt := 131) hx hb dX12_tellList_122 (by decide) (fun c24 => ?_) (fun c24 => ?_)
      · have hq := hq.1 c24
        refine lv_iload hx hb dX12_tellList_131 (lv_at hl 0 rfl) ?_
        exact k_X12_tellList_133 C hK hX17 hW (lv_sub hl [1, 2, 3, 4] rfl) hq
      · have hq := hq.2 c24
        refine lv_iload hx hb dX12_tellList_125 (lv_at hl 0 rfl) ?_
        refine lv_ineg hx hb dX12_tellList_127 ?_
        refine lv_goto (tgt := 133) hx hb dX12_tellList_128 (by decide) ?_
        exact k_X12_tellList_133 C hK hX17 hW (lv_sub hl [1, 2, 3, 4] rfl) hq
    · have hq := hq.2 c23
      exact k_vret rfl C hW dX12_tellList_101 hq
  · have hq := hq.2 c20
    exact k_vret rfl C hW dX12_tellList_84 hq
theorem k_X12_tellList_58 {Q : hp → Prop} {X17 : Int32 × hp → Prop} {x1 : Int32} {x2 : Int32} {x3 : Int32} {x4 : Int32} {h : hp} (C : kC p s m args meth c cX12_tellList 6 none RX12 wUX12_tellList) (hK : kK G s) (hX17 : ∀ (x3 : Int32) (h : hp) (H : Heap) (locs : List Loc) (ls : Array Slot), kW SM G h (aS SM G) s H locs → lv_has ls 6 [(0, .ref (G.2.2 0)), (1, .int x1), (2, .int x2), (3, .int x3)] → X17 (x3, h) → W p l e rmX12_tellList s m args below meth c H locs 0 0 (MQ below (va_Qv Q (kB SM G) (aS SM G)) args s 0 0 (aS SM G)) (F0 m 17 ls [])) {H : Heap} {locs : List Loc} {ls : Array Slot} (hW : kW SM G h (aS SM G) s H locs) (hl : lv_has ls 6 [(0, .ref (G.2.2 0)), (1, .int x1), (2, .int x2), (3, .int x3), (4, .int x4)]) (hq : w_X12_tellList_58 Q X17 x1 x2 x3 x4 h) : W p l e rmX12_tellList s m args below meth c H locs 0 0 (MQ below (va_Qv Q (kB SM G) (aS SM G)) args s 0 0 (aS SM G)) (F0 m 58 ls []) := by
  have hx := C.1
  have hb := C.2.1
  unfold w_X12_tellList_58 at hq
  refine lv_aload_n hx hb dX12_tellList_58 rfl (lv_at hl 0 rfl) ?_
  refine lv_iconst (v := 2) hx hb dX12_tellList_59 (by decide) ?_
  refine k_ci hW (va_runV (As := [.int 2]) (rest := []) (k_fix C) (c_X12_is l G h 2 _ hq) (cwV 1 C.2.2.2.2.2.1 (gU_V mw642 mw643 mw644 mw5 mw645) rfl rfl rfl (by decide +kernel) ⟨Nat.le_of_ble_eq_true rfl, Nat.le_of_ble_eq_true rfl⟩) (k_preV hK hW (shM_lt (rfl : shM 0 = 12) (by decide)) (ceM_12 (rfl : shM 0 = 12)) (q := (RX12, TX12, 73)) rfl) rfl rfl hl.1 rfl (lv_room (Nat.le_of_ble_eq_true rfl)) dX12_tellList_60 ⟨Nat.le_refl 0, Nat.le_refl 0⟩) (fun r15 h16 H locs hq hW => ?_)
  rw [hq.1] at hW
  have hq := hq.2
  refine lv_if_eq (tgt := 77) hx hb dX12_tellList_63 (by decide) (fun c17 => ?_) (fun c17 => ?_)
  · have hq := hq.1 c17
    exact k_X12_tellList_77 C hK hX17 hW (lv_sub hl [0, 1, 2, 3, 4] rfl) hq
  · have hq := hq.2 c17
    refine lv_iload_n hx hb dX12_tellList_66 rfl (lv_at hl 3 rfl) ?_
    refine lv_bipush (v := 6) hx hb dX12_tellList_67 (by decide) ?_
    refine lv_icmp_ne (tgt := 77) hx hb dX12_tellList_69 (by decide) (fun c18 => ?_) (fun c18 => ?_)
    · have hq := hq.1 c18
      exact k_X12_tellList_77 C hK hX17 hW (lv_sub hl [0, 1, 2, 3, 4] rfl) hq
    · have hq := hq.2 c18
      refine lv_aload_n hx hb dX12_tellList_72 rfl (lv_at hl 0 rfl) ?_
      refine lv_iconst (v := 2) hx hb dX12_tellList_73 (by decide) ?_
      refine k_cv hW (va_runV (As := [.int 2]) (rest := []) (k_fix C) (c_X12_fail l G h 2 _ hq) (cwV 1 C.2.2.2.2.2.1 (gU_V mw654 mw655 mw656 mw5 mw657) rfl rfl rfl (by decide +kernel) ⟨Nat.le_of_ble_eq_true rfl, Nat.le_of_ble_eq_true rfl⟩) (k_preV hK hW (shM_lt (rfl : shM 0 = 12) (by decide)) (ceM_12 (rfl : shM 0 = 12)) (q := (RX12, TX12, 73)) rfl) rfl rfl hl.1 rfl (lv_room (Nat.le_of_ble_eq_true rfl)) dX12_tellList_74 ⟨Nat.le_refl 0, Nat.le_refl 0⟩) (fun h19 H locs hq hW => ?_)
      exact k_X12_tellList_77 C hK hX17 hW (lv_sub hl [0, 1, 2, 3, 4] rfl) hq
theorem k_X12_tellList_41 {Q : hp → Prop} {X17 : Int32 × hp → Prop} {x1 : Int32} {x2 : Int32} {x3 : Int32} {h : hp} (C : kC p s m args meth c cX12_tellList 6 none RX12 wUX12_tellList) (hK : kK G s) (hX17 : ∀ (x3 : Int32) (h : hp) (H : Heap) (locs : List Loc) (ls : Array Slot), kW SM G h (aS SM G) s H locs → lv_has ls 6 [(0, .ref (G.2.2 0)), (1, .int x1), (2, .int x2), (3, .int x3)] → X17 (x3, h) → W p l e rmX12_tellList s m args below meth c H locs 0 0 (MQ below (va_Qv Q (kB SM G) (aS SM G)) args s 0 0 (aS SM G)) (F0 m 17 ls [])) {H : Heap} {locs : List Loc} {ls : Array Slot} (hW : kW SM G h (aS SM G) s H locs) (hl : lv_has ls 6 [(0, .ref (G.2.2 0)), (1, .int x1), (2, .int x2), (3, .int x3)]) (hq : w_X12_tellList_41 Q X17 x1 x2 x3 h) : W p l e rmX12_tellList s m args below meth c H locs 0 0 (MQ below (va_Qv Q (kB SM G) (aS SM G)) args s 0 0 (aS SM G)) (F0 m 41 ls []) := by
  have hx := C.1
  have hb := C.2.1
  unfold w_X12_tellList_41 at hq
  refine lv_aload_n hx hb dX12_tellList_41 rfl (lv_at hl 0 rfl) ?_
  refine lv_bipush (v := 9) hx hb dX12_tellList_42 (by decide) ?_
  refine k_ci hW (va_runV (As := [.int 9]) (rest := []) (k_fix C) (c_X12_is l G h 9 _ hq) (cwV 1 C.2.2.2.2.2.1 (gU_V mw642 mw643 mw644 mw5 mw645) rfl rfl rfl (by decide +kernel) ⟨Nat.le_of_ble_eq_true rfl, Nat.le_of_ble_eq_true rfl⟩) (k_preV hK hW (shM_lt (rfl : shM 0 = 12) (by decide)) (ceM_12 (rfl : shM 0 = 12)) (q := (RX12, TX12, 73)) rfl) rfl rfl hl.1 rfl (lv_room (Nat.le_of_ble_eq_true rfl)) dX12_tellList_44 ⟨Nat.le_refl 0, Nat.le_refl 0⟩) (fun r11 h12 H locs hq hW => ?_)
  rw [hq.1] at hW
  have hq := hq.2
  refine lv_istore (lv' := [(4, .int r11), (0, .ref (G.2.2 0)), (1, .int x1), (2, .int x2), (3, .int x3)]) hx hb dX12_tellList_47 hl (by decide) rfl (fun ls hl => ?_)
  refine lv_iload hx hb dX12_tellList_49 (lv_at hl 0 rfl) ?_
  refine lv_if_eq (tgt := 58) hx hb dX12_tellList_51 (by decide) (fun c13 => ?_) (fun c13 => ?_)
  · have hq := hq.1 c13
    exact k_X12_tellList_58 C hK hX17 hW (lv_sub hl [1, 2, 3, 4, 0] rfl) hq
  · have hq := hq.2 c13
    refine lv_aload_n hx hb dX12_tellList_54 rfl (lv_at hl 1 rfl) ?_
    refine k_cv hW (va_runV (As := []) (rest := []) (k_fix C) (c_X12_goesOn l G h _ hq) (cwV 0 C.2.2.2.2.2.1 (gU_V mw658 mw659 mw660 mw5 mw661) rfl rfl rfl (by decide +kernel) ⟨Nat.le_of_ble_eq_true rfl, Nat.le_of_ble_eq_true rfl⟩) (k_preV hK hW (shM_lt (rfl : shM 0 = 12) (by decide)) (ceM_12 (rfl : shM 0 = 12)) (q := (RX12, TX12, 73)) rfl) rfl rfl hl.1 rfl (lv_room (Nat.le_of_ble_eq_true rfl)) dX12_tellList_55 ⟨Nat.le_refl 0, Nat.le_refl 0⟩) (fun h14 H locs hq hW => ?_)
    exact k_X12_tellList_58 C hK hX17 hW (lv_sub hl [1, 2, 3, 4, 0] rfl) hq
theorem k_X12_tellList_140 {Q : hp → Prop} {x1 : Int32} {x2 : Int32} {x3 : Int32} {h : hp} (C : kC p s m args meth c cX12_tellList 6 none RX12 wUX12_tellList) (hK : kK G s) {H : Heap} {locs : List Loc} {ls : Array Slot} (hW : kW SM G h (aS SM G) s H locs) (hl : lv_has ls 6 [(0, .ref (G.2.2 0)), (1, .int x1), (2, .int x2), (3, .int x3)]) (hq : w_X12_tellList_140 Q x1 x2 x3 h) : W p l e rmX12_tellList s m args below meth c H locs 0 0 (MQ below (va_Qv Q (kB SM G) (aS SM G)) args s 0 0 (aS SM G)) (F0 m 140 ls []) := by
  have hx := C.1
  have hb := C.2.1
  unfold w_X12_tellList_140 at hq
  refine lv_aload_n hx hb dX12_tellList_140 rfl (lv_at hl 0 rfl) ?_
  refine lv_iconst (v := 4) hx hb dX12_tellList_141 (by decide) ?_
  refine k_cv hW (va_runV (As := [.int 4]) (rest := []) (k_fix C) (c_X12_must l G h 4 _ hq) (cwV 1 C.2.2.2.2.2.1 (gU_V mw670 mw671 mw672 mw5 mw673) rfl rfl rfl (by decide +kernel) ⟨Nat.le_of_ble_eq_true rfl, Nat.le_of_ble_eq_true rfl⟩) (k_preV hK hW (shM_lt (rfl : shM 0 = 12) (by decide)) (ceM_12 (rfl : shM 0 = 12)) (q := (RX12, TX12, 73)) rfl) rfl rfl hl.1 rfl (lv_room (Nat.le_of_ble_eq_true rfl)) dX12_tellList_142 ⟨Nat.le_refl 0, Nat.le_refl 0⟩) (fun h27 H locs hq hW => ?_)
  refine lv_aload_n hx hb dX12_tellList_145 rfl (lv_at hl 0 rfl) ?_
  refine gt12_13 C hK hW (rfl : shM 0 = 12) (List.mem_cons_of_mem _ mw608) (fun _ h9 => List.mem_cons_of_mem _ (inU_wsX120 _ h9)) dX12_tellList_146 ?_
  refine lv_if_le (tgt := 153) hx hb dX12_tellList_149 (by decide) (fun c28 => ?_) (fun c28 => ?_)
  · have hq := hq.1 c28
    refine lv_aload_n hx hb dX12_tellList_153 rfl (lv_at hl 0 rfl) ?_
    refine gt12_23 C hK hW (rfl : shM 0 = 12) (List.mem_cons_of_mem _ mw273) (fun _ h9 => List.mem_cons_of_mem _ (inU_wsX120 _ h9)) dX12_tellList_154 ?_
    refine lv_bipush (v := 6) hx hb dX12_tellList_157 (by decide) ?_
    refine lv_aload_n hx hb dX12_tellList_159 rfl (lv_at hl 0 rfl) ?_
    refine gt12_19 C hK hW (rfl : shM 0 = 12) (List.mem_cons_of_mem _ mw611) (fun _ h9 => List.mem_cons_of_mem _ (inU_wsX120 _ h9)) dX12_tellList_160 ?_
    refine lv_imul hx hb dX12_tellList_163 ?_
    refine lv_iload_n hx hb dX12_tellList_164 rfl (lv_at hl 1 rfl) ?_
    refine lv_iadd hx hb dX12_tellList_165 ?_
    refine lv_iload_n hx hb dX12_tellList_166 rfl (lv_at hl 3 rfl) ?_
    refine k_iast okM C hK hW (shM_lt (rfl : shM 10 = 14) (by decide)) (fun g9 => ceM_14 (rfl : shM 10 = 14) (rfl : lnM 10 = 12)) hq.1 dX12_tellList_167 (fun H locs hW => ?_)
    have hq := hq.2
    obtain ⟨h29, eh29⟩ : ∃ z : hp, z = sI h27 10 (ix ((6 * (gI h27 0 19)) + x1)) x3 := ⟨_, rfl⟩
    rw [← eh29] at hW
    have hq := hq h29 eh29
    refine lv_aload_n hx hb dX12_tellList_168 rfl (lv_at hl 0 rfl) ?_
    refine lv_iload_n hx hb dX12_tellList_169 rfl (lv_at hl 2 rfl) ?_
    refine k_cv hW (va_runV (As := [.int x2]) (rest := []) (k_fix C) (c_X12_notes l G h29 x2 _ hq) (cwV 1 C.2.2.2.2.2.1 (gU_V mw716 mw717 mw718 mw5 mw719) rfl rfl rfl (by decide +kernel) ⟨Nat.le_of_ble_eq_true rfl, Nat.le_of_ble_eq_true rfl⟩) (k_preV hK hW (shM_lt (rfl : shM 0 = 12) (by decide)) (ceM_12 (rfl : shM 0 = 12)) (q := (RX12, TX12, 73)) rfl) rfl rfl hl.1 rfl (lv_room (Nat.le_of_ble_eq_true rfl)) dX12_tellList_170 ⟨Nat.le_refl 0, Nat.le_refl 0⟩) (fun h30 H locs hq hW => ?_)
    exact k_vret rfl C hW dX12_tellList_173 hq
  · have hq := hq.2 c28
    exact k_vret rfl C hW dX12_tellList_152 hq
theorem k_X12_tellList_b17 {Q : hp → Prop} {X17 : Int32 × hp → Prop} {x1 : Int32} {x2 : Int32} (C : kC p s m args meth c cX12_tellList 6 none RX12 wUX12_tellList) (hK : kK G s) (hX17 : ∀ (x3 : Int32) (h : hp) (H : Heap) (locs : List Loc) (ls : Array Slot), kW SM G h (aS SM G) s H locs → lv_has ls 6 [(0, .ref (G.2.2 0)), (1, .int x1), (2, .int x2), (3, .int x3)] → X17 (x3, h) → W p l e rmX12_tellList s m args below meth c H locs 0 0 (MQ below (va_Qv Q (kB SM G) (aS SM G)) args s 0 0 (aS SM G)) (F0 m 17 ls [])) {x3 : Int32} {h : hp} {H : Heap} {locs : List Loc} {ls : Array Slot} (hW : kW SM G h (aS SM G) s H locs) (hl : lv_has ls 6 [(0, .ref (G.2.2 0)), (1, .int x1), (2, .int x2), (3, .int x3)]) (hq : w_X12_tellList_b17 Q x1 x2 X17 x3 h) : W p l e rmX12_tellList s m args below meth c H locs 0 0 (MQ below (va_Qv Q (kB SM G) (aS SM G)) args s 0 0 (aS SM G)) (F0 m 17 ls []) := by
  have hx := C.1
  have hb := C.2.1
  unfold w_X12_tellList_b17 at hq
  refine lv_aload_n hx hb dX12_tellList_17 rfl (lv_at hl 0 rfl) ?_
  refine gt12_13 C hK hW (rfl : shM 0 = 12) (List.mem_cons_of_mem _ mw608) (fun _ h9 => List.mem_cons_of_mem _ (inU_wsX120 _ h9)) dX12_tellList_18 ?_
  refine lv_if_ne (tgt := 140) hx hb dX12_tellList_21 (by decide) (fun c4 => ?_) (fun c4 => ?_)
  · have hq := hq.1 c4
    exact k_X12_tellList_140 C hK hW (lv_sub hl [0, 1, 2, 3] rfl) hq
  · have hq := hq.2 c4
    refine lv_aload_n hx hb dX12_tellList_24 rfl (lv_at hl 0 rfl) ?_
    refine lv_iconst (v := 2) hx hb dX12_tellList_25 (by decide) ?_
    refine k_ci hW (va_runV (As := [.int 2]) (rest := []) (k_fix C) (c_X12_is l G h 2 _ hq) (cwV 1 C.2.2.2.2.2.1 (gU_V mw642 mw643 mw644 mw5 mw645) rfl rfl rfl (by decide +kernel) ⟨Nat.le_of_ble_eq_true rfl, Nat.le_of_ble_eq_true rfl⟩) (k_preV hK hW (shM_lt (rfl : shM 0 = 12) (by decide)) (ceM_12 (rfl : shM 0 = 12)) (q := (RX12, TX12, 73)) rfl) rfl rfl hl.1 rfl (lv_room (Nat.le_of_ble_eq_true rfl)) dX12_tellList_26 ⟨Nat.le_refl 0, Nat.le_refl 0⟩) (fun r5 h6 H locs hq hW => ?_)
    rw [hq.1] at hW
    have hq := hq.2
    refine lv_if_ne (tgt := 41) hx hb dX12_tellList_29 (by decide) (fun c7 => ?_) (fun c7 => ?_)
    · have hq := hq.1 c7
      exact k_X12_tellList_41 C hK hX17 hW (lv_sub hl [0, 1, 2, 3] rfl) hq
    · have hq := hq.2 c7
      refine lv_aload_n hx hb dX12_tellList_32 rfl (lv_at hl 0 rfl) ?_
      refine lv_bipush (v := 9) hx hb dX12_tellList_33 (by decide) ?_
      refine k_ci hW (va_runV (As := [.int 9]) (rest := []) (k_fix C) (c_X12_is l G h 9 _ hq) (cwV 1 C.2.2.2.2.2.1 (gU_V mw642 mw643 mw644 mw5 mw645) rfl rfl rfl (by decide +kernel) ⟨Nat.le_of_ble_eq_true rfl, Nat.le_of_ble_eq_true rfl⟩) (k_preV hK hW (shM_lt (rfl : shM 0 = 12) (by decide)) (ceM_12 (rfl : shM 0 = 12)) (q := (RX12, TX12, 73)) rfl) rfl rfl hl.1 rfl (lv_room (Nat.le_of_ble_eq_true rfl)) dX12_tellList_35 ⟨Nat.le_refl 0, Nat.le_refl 0⟩) (fun r8 h9 H locs hq hW => ?_)
      rw [hq.1] at hW
      have hq := hq.2
      refine lv_if_eq (tgt := 140) hx hb dX12_tellList_38 (by decide) (fun c10 => ?_) (fun c10 => ?_)
      · have hq := hq.1 c10
        exact k_X12_tellList_140 C hK hW (lv_sub hl [0, 1, 2, 3] rfl) hq
      · have hq := hq.2 c10
        exact k_X12_tellList_41 C hK hX17 hW (lv_sub hl [0, 1, 2, 3] rfl) hq
theorem k_X12_tellList_17 {Q : hp → Prop} {x1 : Int32} {x2 : Int32} (C : kC p s m args meth c cX12_tellList 6 none RX12 wUX12_tellList) (hK : kK G s) {x3 : Int32} {h : hp} {H : Heap} {locs : List Loc} {ls : Array Slot} (hW : kW SM G h (aS SM G) s H locs) (hl : lv_has ls 6 [(0, .ref (G.2.2 0)), (1, .int x1), (2, .int x2), (3, .int x3)]) (hq : w_X12_tellList_17 Q x1 x2 x3 h) : W p l e rmX12_tellList s m args below meth c H locs 0 0 (MQ below (va_Qv Q (kB SM G) (aS SM G)) args s 0 0 (aS SM G)) (F0 m 17 ls []) := by
  have key := hq (fun (q : Int32 × hp) => ∀ (H : Heap) (locs : List Loc) (ls : Array Slot), kW SM G q.2 (aS SM G) s H locs → lv_has ls 6 [(0, .ref (G.2.2 0)), (1, .int x1), (2, .int x2), (3, .int q.1)] → W p l e rmX12_tellList s m args below meth c H locs 0 0 (MQ below (va_Qv Q (kB SM G) (aS SM G)) args s 0 0 (aS SM G)) (F0 m 17 ls []))
    (fun q hq H locs ls hW hl => k_X12_tellList_b17 C hK (fun x3 h H locs ls hW hl hI => hI H locs ls hW hl) hW hl hq)
  exact key _ _ _ hW hl
theorem k_X12_tellList_0 {Q : hp → Prop} {h : hp} (C : kC p s m args meth c cX12_tellList 6 none RX12 wUX12_tellList) (hK : kK G s) {H : Heap} {locs : List Loc} {ls : Array Slot} (hW : kW SM G h (aS SM G) s H locs) (hl : lv_has ls 6 [(0, .ref (G.2.2 0))]) (hq : w_X12_tellList_0 Q h) : W p l e rmX12_tellList s m args below meth c H locs 0 0 (MQ below (va_Qv Q (kB SM G) (aS SM G)) args s 0 0 (aS SM G)) (F0 m 0 ls []) := by
  have hx := C.1
  have hb := C.2.1
  unfold w_X12_tellList_0 at hq
  refine lv_aload_n hx hb dX12_tellList_0 rfl (lv_at hl 0 rfl) ?_
  refine gt12_22 C hK hW (rfl : shM 0 = 12) (List.mem_cons_of_mem _ mw272) (fun _ h9 => List.mem_cons_of_mem _ (inU_wsX120 _ h9)) dX12_tellList_1 ?_
  refine lv_aload_n hx hb dX12_tellList_4 rfl (lv_at hl 0 rfl) ?_
  refine gt12_19 C hK hW (rfl : shM 0 = 12) (List.mem_cons_of_mem _ mw611) (fun _ h9 => List.mem_cons_of_mem _ (inU_wsX120 _ h9)) dX12_tellList_5 ?_
  refine k_iald C hK hW (shM_lt (rfl : shM 9 = 14) (by decide)) (ceM_14 (rfl : shM 9 = 14) (rfl : lnM 9 = 2)) hq.1 dX12_tellList_8 ?_
  have hq := hq.2
  refine lv_topi (fun x1_1 ex1_1 => ?_)
  have hq := hq x1_1 ex1_1
  refine lv_istore_n (lv' := [(1, .int x1_1), (0, .ref (G.2.2 0))]) hx hb dX12_tellList_9 rfl hl (by decide) rfl (fun ls hl => ?_)
  refine lv_aload_n hx hb dX12_tellList_10 rfl (lv_at hl 1 rfl) ?_
  refine k_ci hW (va_runV (As := []) (rest := []) (k_fix C) (c_X12_named l G h _ hq) (cwV 0 C.2.2.2.2.2.1 (gU_V mw666 mw667 mw668 mw5 mw669) rfl rfl rfl (by decide +kernel) ⟨Nat.le_of_ble_eq_true rfl, Nat.le_of_ble_eq_true rfl⟩) (k_preV hK hW (shM_lt (rfl : shM 0 = 12) (by decide)) (ceM_12 (rfl : shM 0 = 12)) (q := (RX12, TX12, 73)) rfl) rfl rfl hl.1 rfl (lv_room (Nat.le_of_ble_eq_true rfl)) dX12_tellList_11 ⟨Nat.le_refl 0, Nat.le_refl 0⟩) (fun r3 h2 H locs hq hW => ?_)
  refine lv_istore_n (lv' := [(2, .int r3), (1, .int x1_1), (0, .ref (G.2.2 0))]) hx hb dX12_tellList_14 rfl hl (by decide) rfl (fun ls hl => ?_)
  refine lv_iconst (v := 0) hx hb dX12_tellList_15 (by decide) ?_
  refine lv_istore_n (lv' := [(3, .int 0), (2, .int r3), (1, .int x1_1), (0, .ref (G.2.2 0))]) hx hb dX12_tellList_16 rfl hl (by decide) rfl (fun ls hl => ?_)
  exact k_X12_tellList_17 C hK hW (lv_sub hl [3, 2, 1, 0] rfl) hq
theorem c_X12_tellList (l : Launch) (G : wG) (h : hp) (Q : hp → Prop) (hq : w_X12_tellList h Q) : ctV l SM G yX12_tellList wUX12_tellList rmX12_tellList h [.ref (G.2.2 0)] Q := by
  refine k_start (cc := cX12_tellList) (maxL := 6) (rt := none) (own := RX12) (by decide +kernel) rfl rfl (Nat.le_of_ble_eq_true rfl) ?_
  intro p e s m below meth c ls C hK hW hl
  exact k_X12_tellList_0 C hK hW hl hq
theorem k_X12_tellPrime_b38 {Q : hp → Prop} {X38 : Int32 × hp → Prop} {x1 : Int32} {x2 : Int32} (C : kC p s m args meth c cX12_tellPrime 4 none RX12 wUX12_tellPrime) (hK : kK G s) (hX38 : ∀ (x3 : Int32) (h : hp) (H : Heap) (locs : List Loc) (ls : Array Slot), kW SM G h (aS SM G) s H locs → lv_has ls 4 [(0, .ref (G.2.2 0)), (1, .int x1), (2, .int x2), (3, .int x3)] → X38 (x3, h) → W p l e rmX12_tellPrime s m args below meth c H locs 0 0 (MQ below (va_Qv Q (kB SM G) (aS SM G)) args s 0 0 (aS SM G)) (F0 m 38 ls [])) {x3 : Int32} {h : hp} {H : Heap} {locs : List Loc} {ls : Array Slot} (hW : kW SM G h (aS SM G) s H locs) (hl : lv_has ls 4 [(0, .ref (G.2.2 0)), (1, .int x1), (2, .int x2), (3, .int x3)]) (hq : w_X12_tellPrime_b38 Q x1 x2 X38 x3 h) : W p l e rmX12_tellPrime s m args below meth c H locs 0 0 (MQ below (va_Qv Q (kB SM G) (aS SM G)) args s 0 0 (aS SM G)) (F0 m 38 ls []) := by
  have hx := C.1
  have hb := C.2.1
  unfold w_X12_tellPrime_b38 at hq
  refine lv_iload_n hx hb dX12_tellPrime_38 rfl (lv_at hl 3 rfl) ?_
  refine lv_iload_n hx hb dX12_tellPrime_39 rfl (lv_at hl 2 rfl) ?_
  refine lv_icmp_ge (tgt := 67) hx hb dX12_tellPrime_40 (by decide) (fun c7 => ?_) (fun c7 => ?_)
  · have hq := hq.1 c7
    exact k_vret rfl C hW dX12_tellPrime_67 hq
  · have hq := hq.2 c7
    refine lv_iload_n hx hb dX12_tellPrime_43 rfl (lv_at hl 2 rfl) ?_
    refine lv_bipush (v := 98) hx hb dX12_tellPrime_44 (by decide) ?_
    refine lv_icmp_ge (tgt := 61) hx hb dX12_tellPrime_46 (by decide) (fun c8 => ?_) (fun c8 => ?_)
    · have hq := hq.1 c8
      obtain ⟨x3_9, ex3_9⟩ : ∃ y : Int32, y = x3 + 1 := ⟨_, rfl⟩
      have hq := hq x3_9 ex3_9
      refine lv_iinc (v := x3_9) (lv' := [(3, .int x3_9), (0, .ref (G.2.2 0)), (1, .int x1), (2, .int x2)]) hx hb dX12_tellPrime_61 hl (k := 3) rfl (by rw [ex3_9]; rfl) (by decide) rfl (fun ls hl => ?_)
      refine lv_goto (tgt := 38) hx hb dX12_tellPrime_64 (by decide) ?_
      exact hX38 _ _ _ _ _ hW (lv_sub hl [1, 2, 3, 0] rfl) hq
    · have hq := hq.2 c8
      refine lv_iload_n hx hb dX12_tellPrime_49 rfl (lv_at hl 2 rfl) ?_
      refine lv_iload_n hx hb dX12_tellPrime_50 rfl (lv_at hl 3 rfl) ?_
      refine k_irem hx hb dX12_tellPrime_51 hq.1 ?_
      have hq := hq.2
      refine lv_if_ne (tgt := 61) hx hb dX12_tellPrime_52 (by decide) (fun c10 => ?_) (fun c10 => ?_)
      · have hq := hq.1 c10
        obtain ⟨x3_11, ex3_11⟩ : ∃ y : Int32, y = x3 + 1 := ⟨_, rfl⟩
        have hq := hq x3_11 ex3_11
        refine lv_iinc (v := x3_11) (lv' := [(3, .int x3_11), (0, .ref (G.2.2 0)), (1, .int x1), (2, .int x2)]) hx hb dX12_tellPrime_61 hl (k := 3) rfl (by rw [ex3_11]; rfl) (by decide) rfl (fun ls hl => ?_)
        refine lv_goto (tgt := 38) hx hb dX12_tellPrime_64 (by decide) ?_
        exact hX38 _ _ _ _ _ hW (lv_sub hl [1, 2, 3, 0] rfl) hq
      · have hq := hq.2 c10
        refine lv_aload_n hx hb dX12_tellPrime_55 rfl (lv_at hl 0 rfl) ?_
        refine lv_iconst (v := 5) hx hb dX12_tellPrime_56 (by decide) ?_
        refine lv_iload_n hx hb dX12_tellPrime_57 rfl (lv_at hl 1 rfl) ?_
        refine k_cv hW (va_runV (As := [.int 5, .int x1]) (rest := []) (k_fix C) (c_X12_amiss l G h 5 x1 _ hq) (cwV 2 C.2.2.2.2.2.1 (gU_V mw674 mw675 mw676 mw5 mw677) rfl rfl rfl (by decide +kernel) ⟨Nat.le_of_ble_eq_true rfl, Nat.le_of_ble_eq_true rfl⟩) (k_preV hK hW (shM_lt (rfl : shM 0 = 12) (by decide)) (ceM_12 (rfl : shM 0 = 12)) (q := (RX12, TX12, 73)) rfl) rfl rfl hl.1 rfl (lv_room (Nat.le_of_ble_eq_true rfl)) dX12_tellPrime_58 ⟨Nat.le_refl 0, Nat.le_refl 0⟩) (fun h12 H locs hq hW => ?_)
        obtain ⟨x3_13, ex3_13⟩ : ∃ y : Int32, y = x3 + 1 := ⟨_, rfl⟩
        have hq := hq x3_13 ex3_13
        refine lv_iinc (v := x3_13) (lv' := [(3, .int x3_13), (0, .ref (G.2.2 0)), (1, .int x1), (2, .int x2)]) hx hb dX12_tellPrime_61 hl (k := 3) rfl (by rw [ex3_13]; rfl) (by decide) rfl (fun ls hl => ?_)
        refine lv_goto (tgt := 38) hx hb dX12_tellPrime_64 (by decide) ?_
        exact hX38 _ _ _ _ _ hW (lv_sub hl [1, 2, 3, 0] rfl) hq
theorem k_X12_tellPrime_38 {Q : hp → Prop} {x1 : Int32} {x2 : Int32} (C : kC p s m args meth c cX12_tellPrime 4 none RX12 wUX12_tellPrime) (hK : kK G s) {x3 : Int32} {h : hp} {H : Heap} {locs : List Loc} {ls : Array Slot} (hW : kW SM G h (aS SM G) s H locs) (hl : lv_has ls 4 [(0, .ref (G.2.2 0)), (1, .int x1), (2, .int x2), (3, .int x3)]) (hq : w_X12_tellPrime_38 Q x1 x2 x3 h) : W p l e rmX12_tellPrime s m args below meth c H locs 0 0 (MQ below (va_Qv Q (kB SM G) (aS SM G)) args s 0 0 (aS SM G)) (F0 m 38 ls []) := by
  have key := hq (fun (q : Int32 × hp) => ∀ (H : Heap) (locs : List Loc) (ls : Array Slot), kW SM G q.2 (aS SM G) s H locs → lv_has ls 4 [(0, .ref (G.2.2 0)), (1, .int x1), (2, .int x2), (3, .int q.1)] → W p l e rmX12_tellPrime s m args below meth c H locs 0 0 (MQ below (va_Qv Q (kB SM G) (aS SM G)) args s 0 0 (aS SM G)) (F0 m 38 ls []))
    (fun q hq H locs ls hW hl => k_X12_tellPrime_b38 C hK (fun x3 h H locs ls hW hl hI => hI H locs ls hW hl) hW hl hq)
  exact key _ _ _ hW hl
theorem k_X12_tellPrime_0 {Q : hp → Prop} {h : hp} (C : kC p s m args meth c cX12_tellPrime 4 none RX12 wUX12_tellPrime) (hK : kK G s) {H : Heap} {locs : List Loc} {ls : Array Slot} (hW : kW SM G h (aS SM G) s H locs) (hl : lv_has ls 4 [(0, .ref (G.2.2 0))]) (hq : w_X12_tellPrime_0 Q h) : W p l e rmX12_tellPrime s m args below meth c H locs 0 0 (MQ below (va_Qv Q (kB SM G) (aS SM G)) args s 0 0 (aS SM G)) (F0 m 0 ls []) := by
  have hx := C.1
  have hb := C.2.1
  unfold w_X12_tellPrime_0 at hq
  refine lv_aload_n hx hb dX12_tellPrime_0 rfl (lv_at hl 0 rfl) ?_
  refine gt12_11 C hK hW (rfl : shM 0 = 12) (List.mem_cons_of_mem _ mw606) (fun _ h9 => List.mem_cons_of_mem _ (inU_wsX120 _ h9)) dX12_tellPrime_1 ?_
  refine lv_topi (fun x1_1 ex1_1 => ?_)
  have hq := hq x1_1 ex1_1
  refine lv_istore_n (lv' := [(1, .int x1_1), (0, .ref (G.2.2 0))]) hx hb dX12_tellPrime_4 rfl hl (by decide) rfl (fun ls hl => ?_)
  refine lv_aload_n hx hb dX12_tellPrime_5 rfl (lv_at hl 1 rfl) ?_
  refine lv_iconst (v := 2) hx hb dX12_tellPrime_6 (by decide) ?_
  refine lv_bipush (v := 97) hx hb dX12_tellPrime_7 (by decide) ?_
  refine k_ci hW (va_runV (As := [.int 2, .int 97]) (rest := []) (k_fix C) (c_X12_bounded l G h 2 97 _ hq) (cwV 2 C.2.2.2.2.2.1 (gU_V mw678 mw679 mw680 mw5 mw681) rfl rfl rfl (by decide +kernel) ⟨Nat.le_of_ble_eq_true rfl, Nat.le_of_ble_eq_true rfl⟩) (k_preV hK hW (shM_lt (rfl : shM 0 = 12) (by decide)) (ceM_12 (rfl : shM 0 = 12)) (q := (RX12, TX12, 73)) rfl) rfl rfl hl.1 rfl (lv_room (Nat.le_of_ble_eq_true rfl)) dX12_tellPrime_9 ⟨Nat.le_refl 0, Nat.le_refl 0⟩) (fun r3 h2 H locs hq hW => ?_)
  refine lv_istore_n (lv' := [(2, .int r3), (1, .int x1_1), (0, .ref (G.2.2 0))]) hx hb dX12_tellPrime_12 rfl hl (by decide) rfl (fun ls hl => ?_)
  refine lv_aload_n hx hb dX12_tellPrime_13 rfl (lv_at hl 2 rfl) ?_
  refine lv_iconst (v := 4) hx hb dX12_tellPrime_14 (by decide) ?_
  refine k_cv hW (va_runV (As := [.int 4]) (rest := []) (k_fix C) (c_X12_must l G h2 4 _ hq) (cwV 1 C.2.2.2.2.2.1 (gU_V mw670 mw671 mw672 mw5 mw673) rfl rfl rfl (by decide +kernel) ⟨Nat.le_of_ble_eq_true rfl, Nat.le_of_ble_eq_true rfl⟩) (k_preV hK hW (shM_lt (rfl : shM 0 = 12) (by decide)) (ceM_12 (rfl : shM 0 = 12)) (q := (RX12, TX12, 73)) rfl) rfl rfl hl.1 rfl (lv_room (Nat.le_of_ble_eq_true rfl)) dX12_tellPrime_15 ⟨Nat.le_refl 0, Nat.le_refl 0⟩) (fun h4 H locs hq hW => ?_)
  refine lv_aload_n hx hb dX12_tellPrime_18 rfl (lv_at hl 2 rfl) ?_
  refine gt12_13 C hK hW (rfl : shM 0 = 12) (List.mem_cons_of_mem _ mw608) (fun _ h9 => List.mem_cons_of_mem _ (inU_wsX120 _ h9)) dX12_tellPrime_19 ?_
  refine lv_if_le (tgt := 26) hx hb dX12_tellPrime_22 (by decide) (fun c5 => ?_) (fun c5 => ?_)
  · have hq := hq.1 c5
    refine lv_aload_n hx hb dX12_tellPrime_26 rfl (lv_at hl 2 rfl) ?_
    refine gt12_25 C hK hW (rfl : shM 0 = 12) (List.mem_cons_of_mem _ mw275) (fun _ h9 => List.mem_cons_of_mem _ (inU_wsX120 _ h9)) dX12_tellPrime_27 ?_
    refine lv_aload_n hx hb dX12_tellPrime_30 rfl (lv_at hl 2 rfl) ?_
    refine gt12_19 C hK hW (rfl : shM 0 = 12) (List.mem_cons_of_mem _ mw611) (fun _ h9 => List.mem_cons_of_mem _ (inU_wsX120 _ h9)) dX12_tellPrime_31 ?_
    refine lv_iload_n hx hb dX12_tellPrime_34 rfl (lv_at hl 0 rfl) ?_
    refine k_iast okM C hK hW (shM_lt (rfl : shM 12 = 14) (by decide)) (fun g9 => ceM_14 (rfl : shM 12 = 14) (rfl : lnM 12 = 2)) hq.1 dX12_tellPrime_35 (fun H locs hW => ?_)
    have hq := hq.2
    obtain ⟨h6, eh6⟩ : ∃ z : hp, z = sI h4 12 (ix (gI h4 0 19)) r3 := ⟨_, rfl⟩
    rw [← eh6] at hW
    have hq := hq h6 eh6
    refine lv_iconst (v := 2) hx hb dX12_tellPrime_36 (by decide) ?_
    refine lv_istore_n (lv' := [(3, .int 2), (2, .int r3), (1, .int x1_1), (0, .ref (G.2.2 0))]) hx hb dX12_tellPrime_37 rfl hl (by decide) rfl (fun ls hl => ?_)
    exact k_X12_tellPrime_38 C hK hW (lv_sub hl [3, 2, 1, 0] rfl) hq
  · have hq := hq.2 c5
    exact k_vret rfl C hW dX12_tellPrime_25 hq
theorem c_X12_tellPrime (l : Launch) (G : wG) (h : hp) (Q : hp → Prop) (hq : w_X12_tellPrime h Q) : ctV l SM G yX12_tellPrime wUX12_tellPrime rmX12_tellPrime h [.ref (G.2.2 0)] Q := by
  refine k_start (cc := cX12_tellPrime) (maxL := 4) (rt := none) (own := RX12) (by decide +kernel) rfl rfl (Nat.le_of_ble_eq_true rfl) ?_
  intro p e s m below meth c ls C hK hW hl
  exact k_X12_tellPrime_0 C hK hW hl hq
end LINKS
