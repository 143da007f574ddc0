/-! making cells: rows over worlds that grow -/
theorem i_blind {G : wG} {As : List Value} {sz : Nat} {ws : va_W} : FrameBlind (va_Pc As (fun U => U.heap.size = sz ∧ va_P G.1 vwCl ws U.heap ∧ kK G U ∧ va_D (fun _ => True) ws)) := fun a U g mk q => ⟨q.1, q.2.1, q.2.2.1, kK_same (s := U) (U := U.calling g mk a) rfl q.2.2.2.1, q.2.2.2.2⟩
section CROWS
variable {p : Program} {l : Launch} {e : Env} {R : Room} {s : State} {m : MethodId} {args : Array Value} {below : List Frame} {meth : Method} {c : Code} {H : Heap} {locs : List Loc} {cells slots : Nat} {Q : State → Prop}
variable {cc : ByteArray} {pc : Nat} {ls : Array Slot} {rest : List Value} {G : wG} {A : Nat → Prop} {ws : va_W}
theorem k_newaI (hx : p.tables.exec = Jvm.exec) (hb : c.code = cc) {atype : ArrayType} {ty : FieldType} (harr : (Cond.arrayClass ty).before args s = true) (hty : newarray.typeOf atype = .int) (hte : ty = .int) (hK : kK G s) (hP : va_P G.1 vwCl ws H) (hD : va_D A ws) (hS : va_S A s.heap H locs) (hA : ∀ q, s.heap.size ≤ q → A q) {n : Int32} {N : Nat} {a0 : vp_A} (ha : ∀ cA : ClassId, vp_cell cA a0 = arrV cA N (fun _ => defaultValue .int)) (hn : ¬ n < 0) (hN : n.toNatClampNeg = N) (hbytes : N * componentBytes .int ≤ 536870912) (hcells : cells + 1 ≤ R.cells) (hslots : slots + N ≤ R.slots) (hdg : decode cc pc = .ok (.newarray atype, 2))
    (kk : ∀ (q : Nat) (H1 : Heap), va_P G.1 vwCl (ws ++ [(q, .inl (G.2.1 14, a0))]) H1 → va_D A (ws ++ [(q, .inl (G.2.1 14, a0))]) → va_S A s.heap H1 locs → W p l e R s m args below meth c H1 locs (cells + 1) (slots + N) Q (F0 m (pc + 2) ls (.ref q :: rest))) : W p l e R s m args below meth c H locs cells slots Q (F0 m pc ls (.int n :: rest)) := by
  subst hte
  refine va_newa hx hb (by rw [hty]; exact harr) hty hK.1 hP hD hS hA ha hn hN hbytes hcells hslots hdg (fun q cA H1 hK1 hP1 hD1 hS1 => ?_)
  have e : cA = G.2.1 14 := Option.some.inj ((hK1.2 6 (cA, .int) rfl).2.symm.trans (hK.1.2 1 (G.2.1 14, .int) rfl).2)
  subst e
  exact kk q H1 hP1 hD1 hS1
theorem k_newaJ (hx : p.tables.exec = Jvm.exec) (hb : c.code = cc) {atype : ArrayType} {ty : FieldType} (harr : (Cond.arrayClass ty).before args s = true) (hty : newarray.typeOf atype = .long) (hte : ty = .long) (hK : kK G s) (hP : va_P G.1 vwCl ws H) (hD : va_D A ws) (hS : va_S A s.heap H locs) (hA : ∀ q, s.heap.size ≤ q → A q) {n : Int32} {N : Nat} {a0 : vp_A} (ha : ∀ cA : ClassId, vp_cell cA a0 = arrV cA N (fun _ => defaultValue .long)) (hn : ¬ n < 0) (hN : n.toNatClampNeg = N) (hbytes : N * componentBytes .long ≤ 536870912) (hcells : cells + 1 ≤ R.cells) (hslots : slots + N ≤ R.slots) (hdg : decode cc pc = .ok (.newarray atype, 2))
    (kk : ∀ (q : Nat) (H1 : Heap), va_P G.1 vwCl (ws ++ [(q, .inl (G.2.1 15, a0))]) H1 → va_D A (ws ++ [(q, .inl (G.2.1 15, a0))]) → va_S A s.heap H1 locs → W p l e R s m args below meth c H1 locs (cells + 1) (slots + N) Q (F0 m (pc + 2) ls (.ref q :: rest))) : W p l e R s m args below meth c H locs cells slots Q (F0 m pc ls (.int n :: rest)) := by
  subst hte
  refine va_newa hx hb (by rw [hty]; exact harr) hty hK.1 hP hD hS hA ha hn hN hbytes hcells hslots hdg (fun q cA H1 hK1 hP1 hD1 hS1 => ?_)
  have e : cA = G.2.1 15 := Option.some.inj ((hK1.2 6 (cA, .long) rfl).2.symm.trans (hK.1.2 2 (G.2.1 15, .long) rfl).2)
  subst e
  exact kk q H1 hP1 hD1 hS1
theorem k_newaB (hx : p.tables.exec = Jvm.exec) (hb : c.code = cc) {atype : ArrayType} {ty : FieldType} (harr : (Cond.arrayClass ty).before args s = true) (hty : newarray.typeOf atype = .byte) (hte : ty = .byte) (hK : kK G s) (hP : va_P G.1 vwCl ws H) (hD : va_D A ws) (hS : va_S A s.heap H locs) (hA : ∀ q, s.heap.size ≤ q → A q) {n : Int32} {N : Nat} {a0 : vp_A} (ha : ∀ cA : ClassId, vp_cell cA a0 = arrV cA N (fun _ => defaultValue .byte)) (hn : ¬ n < 0) (hN : n.toNatClampNeg = N) (hbytes : N * componentBytes .byte ≤ 536870912) (hcells : cells + 1 ≤ R.cells) (hslots : slots + N ≤ R.slots) (hdg : decode cc pc = .ok (.newarray atype, 2))
    (kk : ∀ (q : Nat) (H1 : Heap), va_P G.1 vwCl (ws ++ [(q, .inl (G.2.1 13, a0))]) H1 → va_D A (ws ++ [(q, .inl (G.2.1 13, a0))]) → va_S A s.heap H1 locs → W p l e R s m args below meth c H1 locs (cells + 1) (slots + N) Q (F0 m (pc + 2) ls (.ref q :: rest))) : W p l e R s m args below meth c H locs cells slots Q (F0 m pc ls (.int n :: rest)) := by
  subst hte
  refine va_newa hx hb (by rw [hty]; exact harr) hty hK.1 hP hD hS hA ha hn hN hbytes hcells hslots hdg (fun q cA H1 hK1 hP1 hD1 hS1 => ?_)
  have e : cA = G.2.1 13 := Option.some.inj ((hK1.2 6 (cA, .byte) rfl).2.symm.trans (hK.1.2 0 (G.2.1 13, .byte) rfl).2)
  subst e
  exact kk q H1 hP1 hD1 hS1
theorem k_newaZ (hx : p.tables.exec = Jvm.exec) (hb : c.code = cc) {atype : ArrayType} {ty : FieldType} (harr : (Cond.arrayClass ty).before args s = true) (hty : newarray.typeOf atype = .boolean) (hte : ty = .boolean) (hK : kK G s) (hP : va_P G.1 vwCl ws H) (hD : va_D A ws) (hS : va_S A s.heap H locs) (hA : ∀ q, s.heap.size ≤ q → A q) {n : Int32} {N : Nat} {a0 : vp_A} (ha : ∀ cA : ClassId, vp_cell cA a0 = arrV cA N (fun _ => defaultValue .boolean)) (hn : ¬ n < 0) (hN : n.toNatClampNeg = N) (hbytes : N * componentBytes .boolean ≤ 536870912) (hcells : cells + 1 ≤ R.cells) (hslots : slots + N ≤ R.slots) (hdg : decode cc pc = .ok (.newarray atype, 2))
    (kk : ∀ (q : Nat) (H1 : Heap), va_P G.1 vwCl (ws ++ [(q, .inl (G.2.1 16, a0))]) H1 → va_D A (ws ++ [(q, .inl (G.2.1 16, a0))]) → va_S A s.heap H1 locs → W p l e R s m args below meth c H1 locs (cells + 1) (slots + N) Q (F0 m (pc + 2) ls (.ref q :: rest))) : W p l e R s m args below meth c H locs cells slots Q (F0 m pc ls (.int n :: rest)) := by
  subst hte
  refine va_newa hx hb (by rw [hty]; exact harr) hty hK.1 hP hD hS hA ha hn hN hbytes hcells hslots hdg (fun q cA H1 hK1 hP1 hD1 hS1 => ?_)
  have e : cA = G.2.1 16 := Option.some.inj ((hK1.2 6 (cA, .boolean) rfl).2.symm.trans (hK.1.2 3 (G.2.1 16, .boolean) rfl).2)
  subst e
  exact kk q H1 hP1 hD1 hS1
end CROWS

abbrev ri_X0_init : Room := { frames := 1, cells := 2, slots := 9504, locals := 24 }
set_option maxRecDepth 100000 in
theorem i_X0_init (l : Launch) (G : wG) (q0 : Nat) (sz : Nat) : Met l yX0_init wUX0_init ri_X0_init (va_Pc [.ref q0] (fun U => U.heap.size = sz ∧ va_P G.1 vwCl [(q0, .inr (0, [.int 0, .null, .null]))] U.heap ∧ kK G U ∧ va_D (fun _ => True) [(q0, .inr (0, [.int 0, .null, .null]))])) (va_Qv (fun _ : Nat → Nat => True) (fun u t => va_P G.1 vwCl [(q0, .inr (0, [.int 0, .ref (u 1), .ref (u 2)])), ((u 1), .inl (G.2.1 14, 512, .inl (fun _ => 0))), ((u 2), .inl (G.2.1 13, 8992, .inl (fun _ => 0)))] t.heap ∧ va_D (va_A [(q0, .inr (0, [.int 0, .null, .null]))] sz) [(q0, .inr (0, [.int 0, .ref (u 1), .ref (u 2)])), ((u 1), .inl (G.2.1 14, 512, .inl (fun _ => 0))), ((u 2), .inl (G.2.1 13, 8992, .inl (fun _ => 0)))]) (va_A [(q0, .inr (0, [.int 0, .null, .null]))] sz)) 2 9504 (va_A [(q0, .inr (0, [.int 0, .null, .null]))] sz) := by
  refine Met.ofW (cc := cX0_init) (maxL := 1) (ret := none) (by decide) rfl ?_
  intro p e s m args below meth c s₁ B hml hv
  obtain ⟨rfl, hsz, hP, hK, hD0⟩ := hv
  have hx := B.exec
  have hb := B.bytes
  have hr := B.returns
  have hts := atoms_spec (ws := wUX0_init) B.pre
  have hown : s.vm.findClass RX0 = some m.cls := findClass_of_methodNamed B.named
  have hlocks := B.notSynchronized
  have hin : meth.name = "<init>" := (name_of_methodNamed B.named B.method).1
  subst hsz
  have hD := hD0.self (sz := s.heap.size)
  generalize hAe : va_A [(q0, .inr (0, [.int 0, .null, .null]))] s.heap.size = A at hD ⊢
  have hA : ∀ q : Nat, s.heap.size ≤ q → A q := fun q h => by rw [← hAe]; exact Or.inr h
  have hS : va_S A s.heap s.heap [] := va_S.rf
  have hl := lv_entry ([.ref q0]) (n := 1) (Nat.le_of_ble_eq_true rfl)
  rw [lg_entry_eq]
  generalize (lg_sl ([.ref q0]) ++ List.replicate (1 - (lg_sl ([.ref q0])).length) Slot.unset).toArray = ls at hl ⊢
  have hl : lv_has ls 1 [(0, .ref q0)] := hl
  refine lv_aload_n hx hb dX0_init_0 rfl (lv_at hl 0 rfl) ?_
  refine W.objInit hx hb hown (hts _ (List.mem_cons_of_mem _ mw102)) (hts _ (List.mem_cons_of_mem _ mw11)) (hts _ (List.mem_cons_of_mem _ mw12)) rfl (by rw [hml]; exact hl.1) rfl dX0_init_1 (Nat.le_of_ble_eq_true rfl) (Nat.le_of_ble_eq_true rfl) ?_
  refine W.eq (g2 := F0 m 4 ls []) rfl ?_
  refine lv_aload_n hx hb dX0_init_4 rfl (lv_at hl 0 rfl) ?_
  refine lv_iconst (v := 0) hx hb dX0_init_5 (by decide) ?_
  refine va_put (D := G.1) (ci := 0) (v := .int 0) (ty := .int) (C := RX0) (T := TX0) (N := 3) hx hb hts (fun _ h9 => List.mem_cons_of_mem _ (inU_wsX00 _ h9)) tyX0 tyX0_ok nmX0 hown hK.1 hP hD hS 0 rfl rfl 0 (by decide) (hts _ (List.mem_cons_of_mem _ mw103)) (fun _ h9 => h9) rfl (by decide +kernel) rfl rfl (by exact Nat.le_of_ble_eq_true rfl) dX0_init_6 (fun H locs hP hD hS => ?_)
  have hP : va_P G.1 vwCl [(q0, .inr (0, [.int 0, .null, .null]))] H := hP
  have hD : va_D A [(q0, .inr (0, [.int 0, .null, .null]))] := hD
  refine lv_aload_n hx hb dX0_init_9 rfl (lv_at hl 0 rfl) ?_
  refine lv_sipush (v := 512) hx hb dX0_init_10 (by decide) ?_
  refine k_newaI (ty := .int) hx hb (hts _ (List.mem_cons_of_mem _ mw62)) rfl rfl hK hP hD hS hA (a0 := (512, .inl (fun _ => 0))) (fun _ => rfl) (by decide) rfl (Nat.le_of_ble_eq_true rfl) (Nat.le_of_ble_eq_true rfl) (Nat.le_of_ble_eq_true rfl) dX0_init_13 (fun q1 H hP hD hS => ?_)
  have hP : va_P G.1 vwCl [(q0, .inr (0, [.int 0, .null, .null])), (q1, .inl (G.2.1 14, 512, .inl (fun _ => 0)))] H := hP
  have hD : va_D A [(q0, .inr (0, [.int 0, .null, .null])), (q1, .inl (G.2.1 14, 512, .inl (fun _ => 0)))] := hD
  refine va_putF (D := G.1) (ci := 0) (v := .ref q1) (ty := .array (.int)) (C := RX0) (T := TX0) (N := 3) hx hb hts (fun _ h9 => List.mem_cons_of_mem _ (inU_wsX00 _ h9)) tyX0 tyX0_ok nmX0 hown hK.1 hP hD hS 0 rfl rfl 1 (by decide) (hts _ (List.mem_cons_of_mem _ mw104)) (fun _ h9 => h9) rfl hin rfl (by decide +kernel) rfl rfl (by exact Nat.le_of_ble_eq_true rfl) dX0_init_15 (fun H locs hP hD hS => ?_)
  have hP : va_P G.1 vwCl [(q0, .inr (0, [.int 0, .ref q1, .null])), (q1, .inl (G.2.1 14, 512, .inl (fun _ => 0)))] H := hP
  have hD : va_D A [(q0, .inr (0, [.int 0, .ref q1, .null])), (q1, .inl (G.2.1 14, 512, .inl (fun _ => 0)))] := hD
  refine lv_aload_n hx hb dX0_init_18 rfl (lv_at hl 0 rfl) ?_
  refine lv_sipush (v := 8992) hx hb dX0_init_19 (by decide) ?_
  refine k_newaB (ty := .byte) hx hb (hts _ (List.mem_cons_of_mem _ mw13)) rfl rfl hK hP hD hS hA (a0 := (8992, .inl (fun _ => 0))) (fun _ => rfl) (by decide) rfl (Nat.le_of_ble_eq_true rfl) (Nat.le_of_ble_eq_true rfl) (Nat.le_of_ble_eq_true rfl) dX0_init_22 (fun q2 H hP hD hS => ?_)
  have hP : va_P G.1 vwCl [(q0, .inr (0, [.int 0, .ref q1, .null])), (q1, .inl (G.2.1 14, 512, .inl (fun _ => 0))), (q2, .inl (G.2.1 13, 8992, .inl (fun _ => 0)))] H := hP
  have hD : va_D A [(q0, .inr (0, [.int 0, .ref q1, .null])), (q1, .inl (G.2.1 14, 512, .inl (fun _ => 0))), (q2, .inl (G.2.1 13, 8992, .inl (fun _ => 0)))] := hD
  refine va_putF (D := G.1) (ci := 0) (v := .ref q2) (ty := .array (.byte)) (C := RX0) (T := TX0) (N := 3) hx hb hts (fun _ h9 => List.mem_cons_of_mem _ (inU_wsX00 _ h9)) tyX0 tyX0_ok nmX0 hown hK.1 hP hD hS 0 rfl rfl 2 (by decide) (hts _ (List.mem_cons_of_mem _ mw105)) (fun _ h9 => h9) rfl hin rfl (by decide +kernel) rfl rfl (by exact Nat.le_of_ble_eq_true rfl) dX0_init_24 (fun H locs hP hD hS => ?_)
  have hP : va_P G.1 vwCl [(q0, .inr (0, [.int 0, .ref q1, .ref q2])), (q1, .inl (G.2.1 14, 512, .inl (fun _ => 0))), (q2, .inl (G.2.1 13, 8992, .inl (fun _ => 0)))] H := hP
  have hD : va_D A [(q0, .inr (0, [.int 0, .ref q1, .ref q2])), (q1, .inl (G.2.1 14, 512, .inl (fun _ => 0))), (q2, .inl (G.2.1 13, 8992, .inl (fun _ => 0)))] := hD
  refine W.widen (k := 2) (n := 9504) (Nat.le_of_ble_eq_true rfl) (Nat.le_of_ble_eq_true rfl) ?_
  exact W.vret hx hb hr (fun t ht hW => ⟨⟨(fun i => ([q0, q1, q2] : List Nat).getD i 0), rfl, trivial, by rw [ht]; exact hP, hD⟩, hS.F ht⟩) hS.2.2 dX0_init_27

abbrev ri_X2_init : Room := { frames := 1, cells := 4, slots := 852, locals := 24 }
set_option maxRecDepth 100000 in
theorem i_X2_init (l : Launch) (G : wG) (q0 : Nat) (sz : Nat) : Met l yX2_init wUX2_init ri_X2_init (va_Pc [.ref q0] (fun U => U.heap.size = sz ∧ va_P G.1 vwCl [(q0, .inr (2, [.null, .null, .int 0, .null, .null]))] U.heap ∧ kK G U ∧ va_D (fun _ => True) [(q0, .inr (2, [.null, .null, .int 0, .null, .null]))])) (va_Qv (fun _ : Nat → Nat => True) (fun u t => va_P G.1 vwCl [(q0, .inr (2, [.ref (u 1), .ref (u 2), .int 0, .ref (u 3), .ref (u 4)])), ((u 1), .inl (G.2.1 14, 402, .inl (fun _ => 0))), ((u 2), .inl (G.2.1 14, 402, .inl (fun _ => 0))), ((u 3), .inl (G.2.1 14, 6, .inl (fun _ => 0))), ((u 4), .inl (G.2.1 14, 42, .inl (fun _ => 0)))] t.heap ∧ va_D (va_A [(q0, .inr (2, [.null, .null, .int 0, .null, .null]))] sz) [(q0, .inr (2, [.ref (u 1), .ref (u 2), .int 0, .ref (u 3), .ref (u 4)])), ((u 1), .inl (G.2.1 14, 402, .inl (fun _ => 0))), ((u 2), .inl (G.2.1 14, 402, .inl (fun _ => 0))), ((u 3), .inl (G.2.1 14, 6, .inl (fun _ => 0))), ((u 4), .inl (G.2.1 14, 42, .inl (fun _ => 0)))]) (va_A [(q0, .inr (2, [.null, .null, .int 0, .null, .null]))] sz)) 4 852 (va_A [(q0, .inr (2, [.null, .null, .int 0, .null, .null]))] sz) := by
  refine Met.ofW (cc := cX2_init) (maxL := 1) (ret := none) (by decide) rfl ?_
  intro p e s m args below meth c s₁ B hml hv
  obtain ⟨rfl, hsz, hP, hK, hD0⟩ := hv
  have hx := B.exec
  have hb := B.bytes
  have hr := B.returns
  have hts := atoms_spec (ws := wUX2_init) B.pre
  have hown : s.vm.findClass RX2 = some m.cls := findClass_of_methodNamed B.named
  have hlocks := B.notSynchronized
  have hin : meth.name = "<init>" := (name_of_methodNamed B.named B.method).1
  subst hsz
  have hD := hD0.self (sz := s.heap.size)
  generalize hAe : va_A [(q0, .inr (2, [.null, .null, .int 0, .null, .null]))] s.heap.size = A at hD ⊢
  have hA : ∀ q : Nat, s.heap.size ≤ q → A q := fun q h => by rw [← hAe]; exact Or.inr h
  have hS : va_S A s.heap s.heap [] := va_S.rf
  have hl := lv_entry ([.ref q0]) (n := 1) (Nat.le_of_ble_eq_true rfl)
  rw [lg_entry_eq]
  generalize (lg_sl ([.ref q0]) ++ List.replicate (1 - (lg_sl ([.ref q0])).length) Slot.unset).toArray = ls at hl ⊢
  have hl : lv_has ls 1 [(0, .ref q0)] := hl
  refine lv_aload_n hx hb dX2_init_0 rfl (lv_at hl 0 rfl) ?_
  refine W.objInit hx hb hown (hts _ (List.mem_cons_of_mem _ mw84)) (hts _ (List.mem_cons_of_mem _ mw11)) (hts _ (List.mem_cons_of_mem _ mw12)) rfl (by rw [hml]; exact hl.1) rfl dX2_init_1 (Nat.le_of_ble_eq_true rfl) (Nat.le_of_ble_eq_true rfl) ?_
  refine W.eq (g2 := F0 m 4 ls []) rfl ?_
  refine lv_aload_n hx hb dX2_init_4 rfl (lv_at hl 0 rfl) ?_
  refine lv_sipush (v := 402) hx hb dX2_init_5 (by decide) ?_
  refine k_newaI (ty := .int) hx hb (hts _ (List.mem_cons_of_mem _ mw62)) rfl rfl hK hP hD hS hA (a0 := (402, .inl (fun _ => 0))) (fun _ => rfl) (by decide) rfl (Nat.le_of_ble_eq_true rfl) (Nat.le_of_ble_eq_true rfl) (Nat.le_of_ble_eq_true rfl) dX2_init_8 (fun q1 H hP hD hS => ?_)
  have hP : va_P G.1 vwCl [(q0, .inr (2, [.null, .null, .int 0, .null, .null])), (q1, .inl (G.2.1 14, 402, .inl (fun _ => 0)))] H := hP
  have hD : va_D A [(q0, .inr (2, [.null, .null, .int 0, .null, .null])), (q1, .inl (G.2.1 14, 402, .inl (fun _ => 0)))] := hD
  refine va_putF (D := G.1) (ci := 2) (v := .ref q1) (ty := .array (.int)) (C := RX2) (T := TX2) (N := 5) hx hb hts (fun _ h9 => List.mem_cons_of_mem _ (inU_wsX20 _ h9)) tyX2 tyX2_ok nmX2 hown hK.1 hP hD hS 0 rfl rfl 0 (by decide) (hts _ (List.mem_cons_of_mem _ mw85)) (fun _ h9 => h9) rfl hin rfl (by decide +kernel) rfl rfl (by exact Nat.le_of_ble_eq_true rfl) dX2_init_10 (fun H locs hP hD hS => ?_)
  have hP : va_P G.1 vwCl [(q0, .inr (2, [.ref q1, .null, .int 0, .null, .null])), (q1, .inl (G.2.1 14, 402, .inl (fun _ => 0)))] H := hP
  have hD : va_D A [(q0, .inr (2, [.ref q1, .null, .int 0, .null, .null])), (q1, .inl (G.2.1 14, 402, .inl (fun _ => 0)))] := hD
  refine lv_aload_n hx hb dX2_init_13 rfl (lv_at hl 0 rfl) ?_
  refine lv_sipush (v := 402) hx hb dX2_init_14 (by decide) ?_
  refine k_newaI (ty := .int) hx hb (hts _ (List.mem_cons_of_mem _ mw62)) rfl rfl hK hP hD hS hA (a0 := (402, .inl (fun _ => 0))) (fun _ => rfl) (by decide) rfl (Nat.le_of_ble_eq_true rfl) (Nat.le_of_ble_eq_true rfl) (Nat.le_of_ble_eq_true rfl) dX2_init_17 (fun q2 H hP hD hS => ?_)
  have hP : va_P G.1 vwCl [(q0, .inr (2, [.ref q1, .null, .int 0, .null, .null])), (q1, .inl (G.2.1 14, 402, .inl (fun _ => 0))), (q2, .inl (G.2.1 14, 402, .inl (fun _ => 0)))] H := hP
  have hD : va_D A [(q0, .inr (2, [.ref q1, .null, .int 0, .null, .null])), (q1, .inl (G.2.1 14, 402, .inl (fun _ => 0))), (q2, .inl (G.2.1 14, 402, .inl (fun _ => 0)))] := hD
  refine va_putF (D := G.1) (ci := 2) (v := .ref q2) (ty := .array (.int)) (C := RX2) (T := TX2) (N := 5) hx hb hts (fun _ h9 => List.mem_cons_of_mem _ (inU_wsX20 _ h9)) tyX2 tyX2_ok nmX2 hown hK.1 hP hD hS 0 rfl rfl 1 (by decide) (hts _ (List.mem_cons_of_mem _ mw86)) (fun _ h9 => h9) rfl hin rfl (by decide +kernel) rfl rfl (by exact Nat.le_of_ble_eq_true rfl) dX2_init_19 (fun H locs hP hD hS => ?_)
  have hP : va_P G.1 vwCl [(q0, .inr (2, [.ref q1, .ref q2, .int 0, .null, .null])), (q1, .inl (G.2.1 14, 402, .inl (fun _ => 0))), (q2, .inl (G.2.1 14, 402, .inl (fun _ => 0)))] H := hP
  have hD : va_D A [(q0, .inr (2, [.ref q1, .ref q2, .int 0, .null, .null])), (q1, .inl (G.2.1 14, 402, .inl (fun _ => 0))), (q2, .inl (G.2.1 14, 402, .inl (fun _ => 0)))] := hD
  refine lv_aload_n hx hb dX2_init_22 rfl (lv_at hl 0 rfl) ?_
  refine lv_iconst (v := 0) hx hb dX2_init_23 (by decide) ?_
  refine va_put (D := G.1) (ci := 2) (v := .int 0) (ty := .int) (C := RX2) (T := TX2) (N := 5) hx hb hts (fun _ h9 => List.mem_cons_of_mem _ (inU_wsX20 _ h9)) tyX2 tyX2_ok nmX2 hown hK.1 hP hD hS 0 rfl rfl 2 (by decide) (hts _ (List.mem_cons_of_mem _ mw87)) (fun _ h9 => h9) rfl (by decide +kernel) rfl rfl (by exact Nat.le_of_ble_eq_true rfl) dX2_init_24 (fun H locs hP hD hS => ?_)
  have hP : va_P G.1 vwCl [(q0, .inr (2, [.ref q1, .ref q2, .int 0, .null, .null])), (q1, .inl (G.2.1 14, 402, .inl (fun _ => 0))), (q2, .inl (G.2.1 14, 402, .inl (fun _ => 0)))] H := hP
  have hD : va_D A [(q0, .inr (2, [.ref q1, .ref q2, .int 0, .null, .null])), (q1, .inl (G.2.1 14, 402, .inl (fun _ => 0))), (q2, .inl (G.2.1 14, 402, .inl (fun _ => 0)))] := hD
  refine lv_aload_n hx hb dX2_init_27 rfl (lv_at hl 0 rfl) ?_
  refine lv_bipush (v := 6) hx hb dX2_init_28 (by decide) ?_
  refine k_newaI (ty := .int) hx hb (hts _ (List.mem_cons_of_mem _ mw62)) rfl rfl hK hP hD hS hA (a0 := (6, .inl (fun _ => 0))) (fun _ => rfl) (by decide) rfl (Nat.le_of_ble_eq_true rfl) (Nat.le_of_ble_eq_true rfl) (Nat.le_of_ble_eq_true rfl) dX2_init_30 (fun q3 H hP hD hS => ?_)
  have hP : va_P G.1 vwCl [(q0, .inr (2, [.ref q1, .ref q2, .int 0, .null, .null])), (q1, .inl (G.2.1 14, 402, .inl (fun _ => 0))), (q2, .inl (G.2.1 14, 402, .inl (fun _ => 0))), (q3, .inl (G.2.1 14, 6, .inl (fun _ => 0)))] H := hP
  have hD : va_D A [(q0, .inr (2, [.ref q1, .ref q2, .int 0, .null, .null])), (q1, .inl (G.2.1 14, 402, .inl (fun _ => 0))), (q2, .inl (G.2.1 14, 402, .inl (fun _ => 0))), (q3, .inl (G.2.1 14, 6, .inl (fun _ => 0)))] := hD
  refine va_putF (D := G.1) (ci := 2) (v := .ref q3) (ty := .array (.int)) (C := RX2) (T := TX2) (N := 5) hx hb hts (fun _ h9 => List.mem_cons_of_mem _ (inU_wsX20 _ h9)) tyX2 tyX2_ok nmX2 hown hK.1 hP hD hS 0 rfl rfl 3 (by decide) (hts _ (List.mem_cons_of_mem _ mw88)) (fun _ h9 => h9) rfl hin rfl (by decide +kernel) rfl rfl (by exact Nat.le_of_ble_eq_true rfl) dX2_init_32 (fun H locs hP hD hS => ?_)
  have hP : va_P G.1 vwCl [(q0, .inr (2, [.ref q1, .ref q2, .int 0, .ref q3, .null])), (q1, .inl (G.2.1 14, 402, .inl (fun _ => 0))), (q2, .inl (G.2.1 14, 402, .inl (fun _ => 0))), (q3, .inl (G.2.1 14, 6, .inl (fun _ => 0)))] H := hP
  have hD : va_D A [(q0, .inr (2, [.ref q1, .ref q2, .int 0, .ref q3, .null])), (q1, .inl (G.2.1 14, 402, .inl (fun _ => 0))), (q2, .inl (G.2.1 14, 402, .inl (fun _ => 0))), (q3, .inl (G.2.1 14, 6, .inl (fun _ => 0)))] := hD
  refine lv_aload_n hx hb dX2_init_35 rfl (lv_at hl 0 rfl) ?_
  refine lv_bipush (v := 42) hx hb dX2_init_36 (by decide) ?_
  refine k_newaI (ty := .int) hx hb (hts _ (List.mem_cons_of_mem _ mw62)) rfl rfl hK hP hD hS hA (a0 := (42, .inl (fun _ => 0))) (fun _ => rfl) (by decide) rfl (Nat.le_of_ble_eq_true rfl) (Nat.le_of_ble_eq_true rfl) (Nat.le_of_ble_eq_true rfl) dX2_init_38 (fun q4 H hP hD hS => ?_)
  have hP : va_P G.1 vwCl [(q0, .inr (2, [.ref q1, .ref q2, .int 0, .ref q3, .null])), (q1, .inl (G.2.1 14, 402, .inl (fun _ => 0))), (q2, .inl (G.2.1 14, 402, .inl (fun _ => 0))), (q3, .inl (G.2.1 14, 6, .inl (fun _ => 0))), (q4, .inl (G.2.1 14, 42, .inl (fun _ => 0)))] H := hP
  have hD : va_D A [(q0, .inr (2, [.ref q1, .ref q2, .int 0, .ref q3, .null])), (q1, .inl (G.2.1 14, 402, .inl (fun _ => 0))), (q2, .inl (G.2.1 14, 402, .inl (fun _ => 0))), (q3, .inl (G.2.1 14, 6, .inl (fun _ => 0))), (q4, .inl (G.2.1 14, 42, .inl (fun _ => 0)))] := hD
  refine va_putF (D := G.1) (ci := 2) (v := .ref q4) (ty := .array (.int)) (C := RX2) (T := TX2) (N := 5) hx hb hts (fun _ h9 => List.mem_cons_of_mem _ (inU_wsX20 _ h9)) tyX2 tyX2_ok nmX2 hown hK.1 hP hD hS 0 rfl rfl 4 (by decide) (hts _ (List.mem_cons_of_mem _ mw89)) (fun _ h9 => h9) rfl hin rfl (by decide +kernel) rfl rfl (by exact Nat.le_of_ble_eq_true rfl) dX2_init_40 (fun H locs hP hD hS => ?_)
  have hP : va_P G.1 vwCl [(q0, .inr (2, [.ref q1, .ref q2, .int 0, .ref q3, .ref q4])), (q1, .inl (G.2.1 14, 402, .inl (fun _ => 0))), (q2, .inl (G.2.1 14, 402, .inl (fun _ => 0))), (q3, .inl (G.2.1 14, 6, .inl (fun _ => 0))), (q4, .inl (G.2.1 14, 42, .inl (fun _ => 0)))] H := hP
  have hD : va_D A [(q0, .inr (2, [.ref q1, .ref q2, .int 0, .ref q3, .ref q4])), (q1, .inl (G.2.1 14, 402, .inl (fun _ => 0))), (q2, .inl (G.2.1 14, 402, .inl (fun _ => 0))), (q3, .inl (G.2.1 14, 6, .inl (fun _ => 0))), (q4, .inl (G.2.1 14, 42, .inl (fun _ => 0)))] := hD
  refine W.widen (k := 4) (n := 852) (Nat.le_of_ble_eq_true rfl) (Nat.le_of_ble_eq_true rfl) ?_
  exact W.vret hx hb hr (fun t ht hW => ⟨⟨(fun i => ([q0, q1, q2, q3, q4] : List Nat).getD i 0), rfl, trivial, by rw [ht]; exact hP, hD⟩, hS.F ht⟩) hS.2.2 dX2_init_43

abbrev ri_X4_init : Room := { frames := 1, cells := 2, slots := 32768, locals := 24 }
set_option maxRecDepth 100000 in
theorem i_X4_init (l : Launch) (G : wG) (q0 : Nat) (sz : Nat) : Met l yX4_init wUX4_init ri_X4_init (va_Pc [.ref q0] (fun U => U.heap.size = sz ∧ va_P G.1 vwCl [(q0, .inr (4, [.null, .null, .int 0]))] U.heap ∧ kK G U ∧ va_D (fun _ => True) [(q0, .inr (4, [.null, .null, .int 0]))])) (va_Qv (fun _ : Nat → Nat => True) (fun u t => va_P G.1 vwCl [(q0, .inr (4, [.ref (u 1), .ref (u 2), .int 16384])), ((u 1), .inl (G.2.1 15, 16384, .inr (.inl (fun _ => 0)))), ((u 2), .inl (G.2.1 14, 16384, .inl (fun _ => 0)))] t.heap ∧ va_D (va_A [(q0, .inr (4, [.null, .null, .int 0]))] sz) [(q0, .inr (4, [.ref (u 1), .ref (u 2), .int 16384])), ((u 1), .inl (G.2.1 15, 16384, .inr (.inl (fun _ => 0)))), ((u 2), .inl (G.2.1 14, 16384, .inl (fun _ => 0)))]) (va_A [(q0, .inr (4, [.null, .null, .int 0]))] sz)) 2 32768 (va_A [(q0, .inr (4, [.null, .null, .int 0]))] sz) := by
  refine Met.ofW (cc := cX4_init) (maxL := 1) (ret := none) (by decide) rfl ?_
  intro p e s m args below meth c s₁ B hml hv
  obtain ⟨rfl, hsz, hP, hK, hD0⟩ := hv
  have hx := B.exec
  have hb := B.bytes
  have hr := B.returns
  have hts := atoms_spec (ws := wUX4_init) B.pre
  have hown : s.vm.findClass RX4 = some m.cls := findClass_of_methodNamed B.named
  have hlocks := B.notSynchronized
  have hin : meth.name = "<init>" := (name_of_methodNamed B.named B.method).1
  subst hsz
  have hD := hD0.self (sz := s.heap.size)
  generalize hAe : va_A [(q0, .inr (4, [.null, .null, .int 0]))] s.heap.size = A at hD ⊢
  have hA : ∀ q : Nat, s.heap.size ≤ q → A q := fun q h => by rw [← hAe]; exact Or.inr h
  have hS : va_S A s.heap s.heap [] := va_S.rf
  have hl := lv_entry ([.ref q0]) (n := 1) (Nat.le_of_ble_eq_true rfl)
  rw [lg_entry_eq]
  generalize (lg_sl ([.ref q0]) ++ List.replicate (1 - (lg_sl ([.ref q0])).length) Slot.unset).toArray = ls at hl ⊢
  have hl : lv_has ls 1 [(0, .ref q0)] := hl
  refine lv_aload_n hx hb dX4_init_0 rfl (lv_at hl 0 rfl) ?_
  refine W.objInit hx hb hown (hts _ (List.mem_cons_of_mem _ mw228)) (hts _ (List.mem_cons_of_mem _ mw11)) (hts _ (List.mem_cons_of_mem _ mw12)) rfl (by rw [hml]; exact hl.1) rfl dX4_init_1 (Nat.le_of_ble_eq_true rfl) (Nat.le_of_ble_eq_true rfl) ?_
  refine W.eq (g2 := F0 m 4 ls []) rfl ?_
  refine lv_aload_n hx hb dX4_init_4 rfl (lv_at hl 0 rfl) ?_
  refine lv_sipush (v := 16384) hx hb dX4_init_5 (by decide) ?_
  refine k_newaJ (ty := .long) hx hb (hts _ (List.mem_cons_of_mem _ mw64)) rfl rfl hK hP hD hS hA (a0 := (16384, .inr (.inl (fun _ => 0)))) (fun _ => rfl) (by decide) rfl (Nat.le_of_ble_eq_true rfl) (Nat.le_of_ble_eq_true rfl) (Nat.le_of_ble_eq_true rfl) dX4_init_8 (fun q1 H hP hD hS => ?_)
  have hP : va_P G.1 vwCl [(q0, .inr (4, [.null, .null, .int 0])), (q1, .inl (G.2.1 15, 16384, .inr (.inl (fun _ => 0))))] H := hP
  have hD : va_D A [(q0, .inr (4, [.null, .null, .int 0])), (q1, .inl (G.2.1 15, 16384, .inr (.inl (fun _ => 0))))] := hD
  refine va_putF (D := G.1) (ci := 4) (v := .ref q1) (ty := .array (.long)) (C := RX4) (T := TX4) (N := 3) hx hb hts (fun _ h9 => List.mem_cons_of_mem _ (inU_wsX40 _ h9)) tyX4 tyX4_ok nmX4 hown hK.1 hP hD hS 0 rfl rfl 0 (by decide) (hts _ (List.mem_cons_of_mem _ mw229)) (fun _ h9 => h9) rfl hin rfl (by decide +kernel) rfl rfl (by exact Nat.le_of_ble_eq_true rfl) dX4_init_10 (fun H locs hP hD hS => ?_)
  have hP : va_P G.1 vwCl [(q0, .inr (4, [.ref q1, .null, .int 0])), (q1, .inl (G.2.1 15, 16384, .inr (.inl (fun _ => 0))))] H := hP
  have hD : va_D A [(q0, .inr (4, [.ref q1, .null, .int 0])), (q1, .inl (G.2.1 15, 16384, .inr (.inl (fun _ => 0))))] := hD
  refine lv_aload_n hx hb dX4_init_13 rfl (lv_at hl 0 rfl) ?_
  refine lv_sipush (v := 16384) hx hb dX4_init_14 (by decide) ?_
  refine k_newaI (ty := .int) hx hb (hts _ (List.mem_cons_of_mem _ mw62)) rfl rfl hK hP hD hS hA (a0 := (16384, .inl (fun _ => 0))) (fun _ => rfl) (by decide) rfl (Nat.le_of_ble_eq_true rfl) (Nat.le_of_ble_eq_true rfl) (Nat.le_of_ble_eq_true rfl) dX4_init_17 (fun q2 H hP hD hS => ?_)
  have hP : va_P G.1 vwCl [(q0, .inr (4, [.ref q1, .null, .int 0])), (q1, .inl (G.2.1 15, 16384, .inr (.inl (fun _ => 0)))), (q2, .inl (G.2.1 14, 16384, .inl (fun _ => 0)))] H := hP
  have hD : va_D A [(q0, .inr (4, [.ref q1, .null, .int 0])), (q1, .inl (G.2.1 15, 16384, .inr (.inl (fun _ => 0)))), (q2, .inl (G.2.1 14, 16384, .inl (fun _ => 0)))] := hD
  refine va_putF (D := G.1) (ci := 4) (v := .ref q2) (ty := .array (.int)) (C := RX4) (T := TX4) (N := 3) hx hb hts (fun _ h9 => List.mem_cons_of_mem _ (inU_wsX40 _ h9)) tyX4 tyX4_ok nmX4 hown hK.1 hP hD hS 0 rfl rfl 1 (by decide) (hts _ (List.mem_cons_of_mem _ mw230)) (fun _ h9 => h9) rfl hin rfl (by decide +kernel) rfl rfl (by exact Nat.le_of_ble_eq_true rfl) dX4_init_19 (fun H locs hP hD hS => ?_)
  have hP : va_P G.1 vwCl [(q0, .inr (4, [.ref q1, .ref q2, .int 0])), (q1, .inl (G.2.1 15, 16384, .inr (.inl (fun _ => 0)))), (q2, .inl (G.2.1 14, 16384, .inl (fun _ => 0)))] H := hP
  have hD : va_D A [(q0, .inr (4, [.ref q1, .ref q2, .int 0])), (q1, .inl (G.2.1 15, 16384, .inr (.inl (fun _ => 0)))), (q2, .inl (G.2.1 14, 16384, .inl (fun _ => 0)))] := hD
  refine lv_aload_n hx hb dX4_init_22 rfl (lv_at hl 0 rfl) ?_
  refine lv_sipush (v := 16384) hx hb dX4_init_23 (by decide) ?_
  refine va_put (D := G.1) (ci := 4) (v := .int 16384) (ty := .int) (C := RX4) (T := TX4) (N := 3) hx hb hts (fun _ h9 => List.mem_cons_of_mem _ (inU_wsX40 _ h9)) tyX4 tyX4_ok nmX4 hown hK.1 hP hD hS 0 rfl rfl 2 (by decide) (hts _ (List.mem_cons_of_mem _ mw231)) (fun _ h9 => h9) rfl (by decide +kernel) rfl rfl (by exact Nat.le_of_ble_eq_true rfl) dX4_init_26 (fun H locs hP hD hS => ?_)
  have hP : va_P G.1 vwCl [(q0, .inr (4, [.ref q1, .ref q2, .int 16384])), (q1, .inl (G.2.1 15, 16384, .inr (.inl (fun _ => 0)))), (q2, .inl (G.2.1 14, 16384, .inl (fun _ => 0)))] H := hP
  have hD : va_D A [(q0, .inr (4, [.ref q1, .ref q2, .int 16384])), (q1, .inl (G.2.1 15, 16384, .inr (.inl (fun _ => 0)))), (q2, .inl (G.2.1 14, 16384, .inl (fun _ => 0)))] := hD
  refine W.widen (k := 2) (n := 32768) (Nat.le_of_ble_eq_true rfl) (Nat.le_of_ble_eq_true rfl) ?_
  exact W.vret hx hb hr (fun t ht hW => ⟨⟨(fun i => ([q0, q1, q2] : List Nat).getD i 0), rfl, trivial, by rw [ht]; exact hP, hD⟩, hS.F ht⟩) hS.2.2 dX4_init_29

abbrev ri_X6_init : Room := { frames := 1, cells := 5, slots := 37, locals := 24 }
set_option maxRecDepth 100000 in
theorem i_X6_init (l : Launch) (G : wG) (q0 : Nat) (sz : Nat) : Met l yX6_init wUX6_init ri_X6_init (va_Pc [.ref q0] (fun U => U.heap.size = sz ∧ va_P G.1 vwCl [(q0, .inr (6, [.int 0, .int 0, .null, .null, .null, .null, .null]))] U.heap ∧ kK G U ∧ va_D (fun _ => True) [(q0, .inr (6, [.int 0, .int 0, .null, .null, .null, .null, .null]))])) (va_Qv (fun _ : Nat → Nat => True) (fun u t => va_P G.1 vwCl [(q0, .inr (6, [.int 0, .int 97, .ref (u 1), .ref (u 2), .ref (u 3), .ref (u 4), .ref (u 5)])), ((u 1), .inl (G.2.1 14, 8, .inl (fun _ => 0))), ((u 2), .inl (G.2.1 14, 8, .inl (fun _ => 0))), ((u 3), .inl (G.2.1 14, 8, .inl (fun _ => 0))), ((u 4), .inl (G.2.1 14, 6, .inl (fun _ => 0))), ((u 5), .inl (G.2.1 14, 7, .inl (fun _ => 0)))] t.heap ∧ va_D (va_A [(q0, .inr (6, [.int 0, .int 0, .null, .null, .null, .null, .null]))] sz) [(q0, .inr (6, [.int 0, .int 97, .ref (u 1), .ref (u 2), .ref (u 3), .ref (u 4), .ref (u 5)])), ((u 1), .inl (G.2.1 14, 8, .inl (fun _ => 0))), ((u 2), .inl (G.2.1 14, 8, .inl (fun _ => 0))), ((u 3), .inl (G.2.1 14, 8, .inl (fun _ => 0))), ((u 4), .inl (G.2.1 14, 6, .inl (fun _ => 0))), ((u 5), .inl (G.2.1 14, 7, .inl (fun _ => 0)))]) (va_A [(q0, .inr (6, [.int 0, .int 0, .null, .null, .null, .null, .null]))] sz)) 5 37 (va_A [(q0, .inr (6, [.int 0, .int 0, .null, .null, .null, .null, .null]))] sz) := by
  refine Met.ofW (cc := cX6_init) (maxL := 1) (ret := none) (by decide) rfl ?_
  intro p e s m args below meth c s₁ B hml hv
  obtain ⟨rfl, hsz, hP, hK, hD0⟩ := hv
  have hx := B.exec
  have hb := B.bytes
  have hr := B.returns
  have hts := atoms_spec (ws := wUX6_init) B.pre
  have hown : s.vm.findClass RX6 = some m.cls := findClass_of_methodNamed B.named
  have hlocks := B.notSynchronized
  have hin : meth.name = "<init>" := (name_of_methodNamed B.named B.method).1
  subst hsz
  have hD := hD0.self (sz := s.heap.size)
  generalize hAe : va_A [(q0, .inr (6, [.int 0, .int 0, .null, .null, .null, .null, .null]))] s.heap.size = A at hD ⊢
  have hA : ∀ q : Nat, s.heap.size ≤ q → A q := fun q h => by rw [← hAe]; exact Or.inr h
  have hS : va_S A s.heap s.heap [] := va_S.rf
  have hl := lv_entry ([.ref q0]) (n := 1) (Nat.le_of_ble_eq_true rfl)
  rw [lg_entry_eq]
  generalize (lg_sl ([.ref q0]) ++ List.replicate (1 - (lg_sl ([.ref q0])).length) Slot.unset).toArray = ls at hl ⊢
  have hl : lv_has ls 1 [(0, .ref q0)] := hl
  refine lv_aload_n hx hb dX6_init_0 rfl (lv_at hl 0 rfl) ?_
  refine W.objInit hx hb hown (hts _ (List.mem_cons_of_mem _ mw92)) (hts _ (List.mem_cons_of_mem _ mw11)) (hts _ (List.mem_cons_of_mem _ mw12)) rfl (by rw [hml]; exact hl.1) rfl dX6_init_1 (Nat.le_of_ble_eq_true rfl) (Nat.le_of_ble_eq_true rfl) ?_
  refine W.eq (g2 := F0 m 4 ls []) rfl ?_
  refine lv_aload_n hx hb dX6_init_4 rfl (lv_at hl 0 rfl) ?_
  refine lv_iconst (v := 0) hx hb dX6_init_5 (by decide) ?_
  refine va_put (D := G.1) (ci := 6) (v := .int 0) (ty := .int) (C := RX6) (T := TX6) (N := 7) hx hb hts (fun _ h9 => List.mem_cons_of_mem _ (inU_wsX60 _ h9)) tyX6 tyX6_ok nmX6 hown hK.1 hP hD hS 0 rfl rfl 0 (by decide) (hts _ (List.mem_cons_of_mem _ mw93)) (fun _ h9 => h9) rfl (by decide +kernel) rfl rfl (by exact Nat.le_of_ble_eq_true rfl) dX6_init_6 (fun H locs hP hD hS => ?_)
  have hP : va_P G.1 vwCl [(q0, .inr (6, [.int 0, .int 0, .null, .null, .null, .null, .null]))] H := hP
  have hD : va_D A [(q0, .inr (6, [.int 0, .int 0, .null, .null, .null, .null, .null]))] := hD
  refine lv_aload_n hx hb dX6_init_9 rfl (lv_at hl 0 rfl) ?_
  refine lv_bipush (v := 97) hx hb dX6_init_10 (by decide) ?_
  refine va_put (D := G.1) (ci := 6) (v := .int 97) (ty := .int) (C := RX6) (T := TX6) (N := 7) hx hb hts (fun _ h9 => List.mem_cons_of_mem _ (inU_wsX60 _ h9)) tyX6 tyX6_ok nmX6 hown hK.1 hP hD hS 0 rfl rfl 1 (by decide) (hts _ (List.mem_cons_of_mem _ mw94)) (fun _ h9 => h9) rfl (by decide +kernel) rfl rfl (by exact Nat.le_of_ble_eq_true rfl) dX6_init_12 (fun H locs hP hD hS => ?_)
  have hP : va_P G.1 vwCl [(q0, .inr (6, [.int 0, .int 97, .null, .null, .null, .null, .null]))] H := hP
  have hD : va_D A [(q0, .inr (6, [.int 0, .int 97, .null, .null, .null, .null, .null]))] := hD
  refine lv_aload_n hx hb dX6_init_15 rfl (lv_at hl 0 rfl) ?_
  refine lv_bipush (v := 8) hx hb dX6_init_16 (by decide) ?_
  refine k_newaI (ty := .int) hx hb (hts _ (List.mem_cons_of_mem _ mw62)) rfl rfl hK hP hD hS hA (a0 := (8, .inl (fun _ => 0))) (fun _ => rfl) (by decide) rfl (Nat.le_of_ble_eq_true rfl) (Nat.le_of_ble_eq_true rfl) (Nat.le_of_ble_eq_true rfl) dX6_init_18 (fun q1 H hP hD hS => ?_)
  have hP : va_P G.1 vwCl [(q0, .inr (6, [.int 0, .int 97, .null, .null, .null, .null, .null])), (q1, .inl (G.2.1 14, 8, .inl (fun _ => 0)))] H := hP
  have hD : va_D A [(q0, .inr (6, [.int 0, .int 97, .null, .null, .null, .null, .null])), (q1, .inl (G.2.1 14, 8, .inl (fun _ => 0)))] := hD
  refine va_putF (D := G.1) (ci := 6) (v := .ref q1) (ty := .array (.int)) (C := RX6) (T := TX6) (N := 7) hx hb hts (fun _ h9 => List.mem_cons_of_mem _ (inU_wsX60 _ h9)) tyX6 tyX6_ok nmX6 hown hK.1 hP hD hS 0 rfl rfl 2 (by decide) (hts _ (List.mem_cons_of_mem _ mw95)) (fun _ h9 => h9) rfl hin rfl (by decide +kernel) rfl rfl (by exact Nat.le_of_ble_eq_true rfl) dX6_init_20 (fun H locs hP hD hS => ?_)
  have hP : va_P G.1 vwCl [(q0, .inr (6, [.int 0, .int 97, .ref q1, .null, .null, .null, .null])), (q1, .inl (G.2.1 14, 8, .inl (fun _ => 0)))] H := hP
  have hD : va_D A [(q0, .inr (6, [.int 0, .int 97, .ref q1, .null, .null, .null, .null])), (q1, .inl (G.2.1 14, 8, .inl (fun _ => 0)))] := hD
  refine lv_aload_n hx hb dX6_init_23 rfl (lv_at hl 0 rfl) ?_
  refine lv_bipush (v := 8) hx hb dX6_init_24 (by decide) ?_
  refine k_newaI (ty := .int) hx hb (hts _ (List.mem_cons_of_mem _ mw62)) rfl rfl hK hP hD hS hA (a0 := (8, .inl (fun _ => 0))) (fun _ => rfl) (by decide) rfl (Nat.le_of_ble_eq_true rfl) (Nat.le_of_ble_eq_true rfl) (Nat.le_of_ble_eq_true rfl) dX6_init_26 (fun q2 H hP hD hS => ?_)
  have hP : va_P G.1 vwCl [(q0, .inr (6, [.int 0, .int 97, .ref q1, .null, .null, .null, .null])), (q1, .inl (G.2.1 14, 8, .inl (fun _ => 0))), (q2, .inl (G.2.1 14, 8, .inl (fun _ => 0)))] H := hP
  have hD : va_D A [(q0, .inr (6, [.int 0, .int 97, .ref q1, .null, .null, .null, .null])), (q1, .inl (G.2.1 14, 8, .inl (fun _ => 0))), (q2, .inl (G.2.1 14, 8, .inl (fun _ => 0)))] := hD
  refine va_putF (D := G.1) (ci := 6) (v := .ref q2) (ty := .array (.int)) (C := RX6) (T := TX6) (N := 7) hx hb hts (fun _ h9 => List.mem_cons_of_mem _ (inU_wsX60 _ h9)) tyX6 tyX6_ok nmX6 hown hK.1 hP hD hS 0 rfl rfl 3 (by decide) (hts _ (List.mem_cons_of_mem _ mw96)) (fun _ h9 => h9) rfl hin rfl (by decide +kernel) rfl rfl (by exact Nat.le_of_ble_eq_true rfl) dX6_init_28 (fun H locs hP hD hS => ?_)
  have hP : va_P G.1 vwCl [(q0, .inr (6, [.int 0, .int 97, .ref q1, .ref q2, .null, .null, .null])), (q1, .inl (G.2.1 14, 8, .inl (fun _ => 0))), (q2, .inl (G.2.1 14, 8, .inl (fun _ => 0)))] H := hP
  have hD : va_D A [(q0, .inr (6, [.int 0, .int 97, .ref q1, .ref q2, .null, .null, .null])), (q1, .inl (G.2.1 14, 8, .inl (fun _ => 0))), (q2, .inl (G.2.1 14, 8, .inl (fun _ => 0)))] := hD
  refine lv_aload_n hx hb dX6_init_31 rfl (lv_at hl 0 rfl) ?_
  refine lv_bipush (v := 8) hx hb dX6_init_32 (by decide) ?_
  refine k_newaI (ty := .int) hx hb (hts _ (List.mem_cons_of_mem _ mw62)) rfl rfl hK hP hD hS hA (a0 := (8, .inl (fun _ => 0))) (fun _ => rfl) (by decide) rfl (Nat.le_of_ble_eq_true rfl) (Nat.le_of_ble_eq_true rfl) (Nat.le_of_ble_eq_true rfl) dX6_init_34 (fun q3 H hP hD hS => ?_)
  have hP : va_P G.1 vwCl [(q0, .inr (6, [.int 0, .int 97, .ref q1, .ref q2, .null, .null, .null])), (q1, .inl (G.2.1 14, 8, .inl (fun _ => 0))), (q2, .inl (G.2.1 14, 8, .inl (fun _ => 0))), (q3, .inl (G.2.1 14, 8, .inl (fun _ => 0)))] H := hP
  have hD : va_D A [(q0, .inr (6, [.int 0, .int 97, .ref q1, .ref q2, .null, .null, .null])), (q1, .inl (G.2.1 14, 8, .inl (fun _ => 0))), (q2, .inl (G.2.1 14, 8, .inl (fun _ => 0))), (q3, .inl (G.2.1 14, 8, .inl (fun _ => 0)))] := hD
  refine va_putF (D := G.1) (ci := 6) (v := .ref q3) (ty := .array (.int)) (C := RX6) (T := TX6) (N := 7) hx hb hts (fun _ h9 => List.mem_cons_of_mem _ (inU_wsX60 _ h9)) tyX6 tyX6_ok nmX6 hown hK.1 hP hD hS 0 rfl rfl 4 (by decide) (hts _ (List.mem_cons_of_mem _ mw97)) (fun _ h9 => h9) rfl hin rfl (by decide +kernel) rfl rfl (by exact Nat.le_of_ble_eq_true rfl) dX6_init_36 (fun H locs hP hD hS => ?_)
  have hP : va_P G.1 vwCl [(q0, .inr (6, [.int 0, .int 97, .ref q1, .ref q2, .ref q3, .null, .null])), (q1, .inl (G.2.1 14, 8, .inl (fun _ => 0))), (q2, .inl (G.2.1 14, 8, .inl (fun _ => 0))), (q3, .inl (G.2.1 14, 8, .inl (fun _ => 0)))] H := hP
  have hD : va_D A [(q0, .inr (6, [.int 0, .int 97, .ref q1, .ref q2, .ref q3, .null, .null])), (q1, .inl (G.2.1 14, 8, .inl (fun _ => 0))), (q2, .inl (G.2.1 14, 8, .inl (fun _ => 0))), (q3, .inl (G.2.1 14, 8, .inl (fun _ => 0)))] := hD
  refine lv_aload_n hx hb dX6_init_39 rfl (lv_at hl 0 rfl) ?_
  refine lv_bipush (v := 6) hx hb dX6_init_40 (by decide) ?_
  refine k_newaI (ty := .int) hx hb (hts _ (List.mem_cons_of_mem _ mw62)) rfl rfl hK hP hD hS hA (a0 := (6, .inl (fun _ => 0))) (fun _ => rfl) (by decide) rfl (Nat.le_of_ble_eq_true rfl) (Nat.le_of_ble_eq_true rfl) (Nat.le_of_ble_eq_true rfl) dX6_init_42 (fun q4 H hP hD hS => ?_)
  have hP : va_P G.1 vwCl [(q0, .inr (6, [.int 0, .int 97, .ref q1, .ref q2, .ref q3, .null, .null])), (q1, .inl (G.2.1 14, 8, .inl (fun _ => 0))), (q2, .inl (G.2.1 14, 8, .inl (fun _ => 0))), (q3, .inl (G.2.1 14, 8, .inl (fun _ => 0))), (q4, .inl (G.2.1 14, 6, .inl (fun _ => 0)))] H := hP
  have hD : va_D A [(q0, .inr (6, [.int 0, .int 97, .ref q1, .ref q2, .ref q3, .null, .null])), (q1, .inl (G.2.1 14, 8, .inl (fun _ => 0))), (q2, .inl (G.2.1 14, 8, .inl (fun _ => 0))), (q3, .inl (G.2.1 14, 8, .inl (fun _ => 0))), (q4, .inl (G.2.1 14, 6, .inl (fun _ => 0)))] := hD
  refine va_putF (D := G.1) (ci := 6) (v := .ref q4) (ty := .array (.int)) (C := RX6) (T := TX6) (N := 7) hx hb hts (fun _ h9 => List.mem_cons_of_mem _ (inU_wsX60 _ h9)) tyX6 tyX6_ok nmX6 hown hK.1 hP hD hS 0 rfl rfl 5 (by decide) (hts _ (List.mem_cons_of_mem _ mw98)) (fun _ h9 => h9) rfl hin rfl (by decide +kernel) rfl rfl (by exact Nat.le_of_ble_eq_true rfl) dX6_init_44 (fun H locs hP hD hS => ?_)
  have hP : va_P G.1 vwCl [(q0, .inr (6, [.int 0, .int 97, .ref q1, .ref q2, .ref q3, .ref q4, .null])), (q1, .inl (G.2.1 14, 8, .inl (fun _ => 0))), (q2, .inl (G.2.1 14, 8, .inl (fun _ => 0))), (q3, .inl (G.2.1 14, 8, .inl (fun _ => 0))), (q4, .inl (G.2.1 14, 6, .inl (fun _ => 0)))] H := hP
  have hD : va_D A [(q0, .inr (6, [.int 0, .int 97, .ref q1, .ref q2, .ref q3, .ref q4, .null])), (q1, .inl (G.2.1 14, 8, .inl (fun _ => 0))), (q2, .inl (G.2.1 14, 8, .inl (fun _ => 0))), (q3, .inl (G.2.1 14, 8, .inl (fun _ => 0))), (q4, .inl (G.2.1 14, 6, .inl (fun _ => 0)))] := hD
  refine lv_aload_n hx hb dX6_init_47 rfl (lv_at hl 0 rfl) ?_
  refine lv_bipush (v := 7) hx hb dX6_init_48 (by decide) ?_
  refine k_newaI (ty := .int) hx hb (hts _ (List.mem_cons_of_mem _ mw62)) rfl rfl hK hP hD hS hA (a0 := (7, .inl (fun _ => 0))) (fun _ => rfl) (by decide) rfl (Nat.le_of_ble_eq_true rfl) (Nat.le_of_ble_eq_true rfl) (Nat.le_of_ble_eq_true rfl) dX6_init_50 (fun q5 H hP hD hS => ?_)
  have hP : va_P G.1 vwCl [(q0, .inr (6, [.int 0, .int 97, .ref q1, .ref q2, .ref q3, .ref q4, .null])), (q1, .inl (G.2.1 14, 8, .inl (fun _ => 0))), (q2, .inl (G.2.1 14, 8, .inl (fun _ => 0))), (q3, .inl (G.2.1 14, 8, .inl (fun _ => 0))), (q4, .inl (G.2.1 14, 6, .inl (fun _ => 0))), (q5, .inl (G.2.1 14, 7, .inl (fun _ => 0)))] H := hP
  have hD : va_D A [(q0, .inr (6, [.int 0, .int 97, .ref q1, .ref q2, .ref q3, .ref q4, .null])), (q1, .inl (G.2.1 14, 8, .inl (fun _ => 0))), (q2, .inl (G.2.1 14, 8, .inl (fun _ => 0))), (q3, .inl (G.2.1 14, 8, .inl (fun _ => 0))), (q4, .inl (G.2.1 14, 6, .inl (fun _ => 0))), (q5, .inl (G.2.1 14, 7, .inl (fun _ => 0)))] := hD
  refine va_putF (D := G.1) (ci := 6) (v := .ref q5) (ty := .array (.int)) (C := RX6) (T := TX6) (N := 7) hx hb hts (fun _ h9 => List.mem_cons_of_mem _ (inU_wsX60 _ h9)) tyX6 tyX6_ok nmX6 hown hK.1 hP hD hS 0 rfl rfl 6 (by decide) (hts _ (List.mem_cons_of_mem _ mw99)) (fun _ h9 => h9) rfl hin rfl (by decide +kernel) rfl rfl (by exact Nat.le_of_ble_eq_true rfl) dX6_init_52 (fun H locs hP hD hS => ?_)
  have hP : va_P G.1 vwCl [(q0, .inr (6, [.int 0, .int 97, .ref q1, .ref q2, .ref q3, .ref q4, .ref q5])), (q1, .inl (G.2.1 14, 8, .inl (fun _ => 0))), (q2, .inl (G.2.1 14, 8, .inl (fun _ => 0))), (q3, .inl (G.2.1 14, 8, .inl (fun _ => 0))), (q4, .inl (G.2.1 14, 6, .inl (fun _ => 0))), (q5, .inl (G.2.1 14, 7, .inl (fun _ => 0)))] H := hP
  have hD : va_D A [(q0, .inr (6, [.int 0, .int 97, .ref q1, .ref q2, .ref q3, .ref q4, .ref q5])), (q1, .inl (G.2.1 14, 8, .inl (fun _ => 0))), (q2, .inl (G.2.1 14, 8, .inl (fun _ => 0))), (q3, .inl (G.2.1 14, 8, .inl (fun _ => 0))), (q4, .inl (G.2.1 14, 6, .inl (fun _ => 0))), (q5, .inl (G.2.1 14, 7, .inl (fun _ => 0)))] := hD
  refine W.widen (k := 5) (n := 37) (Nat.le_of_ble_eq_true rfl) (Nat.le_of_ble_eq_true rfl) ?_
  exact W.vret hx hb hr (fun t ht hW => ⟨⟨(fun i => ([q0, q1, q2, q3, q4, q5] : List Nat).getD i 0), rfl, trivial, by rw [ht]; exact hP, hD⟩, hS.F ht⟩) hS.2.2 dX6_init_55

abbrev ri_X9_init : Room := { frames := 1, cells := 2, slots := 40, locals := 24 }
set_option maxRecDepth 100000 in
theorem i_X9_init (l : Launch) (G : wG) (q0 : Nat) (sz : Nat) : Met l yX9_init wUX9_init ri_X9_init (va_Pc [.ref q0] (fun U => U.heap.size = sz ∧ va_P G.1 vwCl [(q0, .inr (9, [.int 0, .null, .null, .int 0]))] U.heap ∧ kK G U ∧ va_D (fun _ => True) [(q0, .inr (9, [.int 0, .null, .null, .int 0]))])) (va_Qv (fun _ : Nat → Nat => True) (fun u t => va_P G.1 vwCl [(q0, .inr (9, [.int 0, .ref (u 1), .ref (u 2), .int 0])), ((u 1), .inl (G.2.1 14, 20, .inl (fun _ => 0))), ((u 2), .inl (G.2.1 15, 20, .inr (.inl (fun _ => 0))))] t.heap ∧ va_D (va_A [(q0, .inr (9, [.int 0, .null, .null, .int 0]))] sz) [(q0, .inr (9, [.int 0, .ref (u 1), .ref (u 2), .int 0])), ((u 1), .inl (G.2.1 14, 20, .inl (fun _ => 0))), ((u 2), .inl (G.2.1 15, 20, .inr (.inl (fun _ => 0))))]) (va_A [(q0, .inr (9, [.int 0, .null, .null, .int 0]))] sz)) 2 40 (va_A [(q0, .inr (9, [.int 0, .null, .null, .int 0]))] sz) := by
  refine Met.ofW (cc := cX9_init) (maxL := 1) (ret := none) (by decide) rfl ?_
  intro p e s m args below meth c s₁ B hml hv
  obtain ⟨rfl, hsz, hP, hK, hD0⟩ := hv
  have hx := B.exec
  have hb := B.bytes
  have hr := B.returns
  have hts := atoms_spec (ws := wUX9_init) B.pre
  have hown : s.vm.findClass RX9 = some m.cls := findClass_of_methodNamed B.named
  have hlocks := B.notSynchronized
  have hin : meth.name = "<init>" := (name_of_methodNamed B.named B.method).1
  subst hsz
  have hD := hD0.self (sz := s.heap.size)
  generalize hAe : va_A [(q0, .inr (9, [.int 0, .null, .null, .int 0]))] s.heap.size = A at hD ⊢
  have hA : ∀ q : Nat, s.heap.size ≤ q → A q := fun q h => by rw [← hAe]; exact Or.inr h
  have hS : va_S A s.heap s.heap [] := va_S.rf
  have hl := lv_entry ([.ref q0]) (n := 1) (Nat.le_of_ble_eq_true rfl)
  rw [lg_entry_eq]
  generalize (lg_sl ([.ref q0]) ++ List.replicate (1 - (lg_sl ([.ref q0])).length) Slot.unset).toArray = ls at hl ⊢
  have hl : lv_has ls 1 [(0, .ref q0)] := hl
  refine lv_aload_n hx hb dX9_init_0 rfl (lv_at hl 0 rfl) ?_
  refine W.objInit hx hb hown (hts _ (List.mem_cons_of_mem _ mw208)) (hts _ (List.mem_cons_of_mem _ mw11)) (hts _ (List.mem_cons_of_mem _ mw12)) rfl (by rw [hml]; exact hl.1) rfl dX9_init_1 (Nat.le_of_ble_eq_true rfl) (Nat.le_of_ble_eq_true rfl) ?_
  refine W.eq (g2 := F0 m 4 ls []) rfl ?_
  refine lv_aload_n hx hb dX9_init_4 rfl (lv_at hl 0 rfl) ?_
  refine lv_iconst (v := 0) hx hb dX9_init_5 (by decide) ?_
  refine va_put (D := G.1) (ci := 9) (v := .int 0) (ty := .int) (C := RX9) (T := TX9) (N := 4) hx hb hts (fun _ h9 => List.mem_cons_of_mem _ (inU_wsX90 _ h9)) tyX9 tyX9_ok nmX9 hown hK.1 hP hD hS 0 rfl rfl 0 (by decide) (hts _ (List.mem_cons_of_mem _ mw209)) (fun _ h9 => h9) rfl (by decide +kernel) rfl rfl (by exact Nat.le_of_ble_eq_true rfl) dX9_init_6 (fun H locs hP hD hS => ?_)
  have hP : va_P G.1 vwCl [(q0, .inr (9, [.int 0, .null, .null, .int 0]))] H := hP
  have hD : va_D A [(q0, .inr (9, [.int 0, .null, .null, .int 0]))] := hD
  refine lv_aload_n hx hb dX9_init_9 rfl (lv_at hl 0 rfl) ?_
  refine lv_bipush (v := 20) hx hb dX9_init_10 (by decide) ?_
  refine k_newaI (ty := .int) hx hb (hts _ (List.mem_cons_of_mem _ mw62)) rfl rfl hK hP hD hS hA (a0 := (20, .inl (fun _ => 0))) (fun _ => rfl) (by decide) rfl (Nat.le_of_ble_eq_true rfl) (Nat.le_of_ble_eq_true rfl) (Nat.le_of_ble_eq_true rfl) dX9_init_12 (fun q1 H hP hD hS => ?_)
  have hP : va_P G.1 vwCl [(q0, .inr (9, [.int 0, .null, .null, .int 0])), (q1, .inl (G.2.1 14, 20, .inl (fun _ => 0)))] H := hP
  have hD : va_D A [(q0, .inr (9, [.int 0, .null, .null, .int 0])), (q1, .inl (G.2.1 14, 20, .inl (fun _ => 0)))] := hD
  refine va_putF (D := G.1) (ci := 9) (v := .ref q1) (ty := .array (.int)) (C := RX9) (T := TX9) (N := 4) hx hb hts (fun _ h9 => List.mem_cons_of_mem _ (inU_wsX90 _ h9)) tyX9 tyX9_ok nmX9 hown hK.1 hP hD hS 0 rfl rfl 1 (by decide) (hts _ (List.mem_cons_of_mem _ mw210)) (fun _ h9 => h9) rfl hin rfl (by decide +kernel) rfl rfl (by exact Nat.le_of_ble_eq_true rfl) dX9_init_14 (fun H locs hP hD hS => ?_)
  have hP : va_P G.1 vwCl [(q0, .inr (9, [.int 0, .ref q1, .null, .int 0])), (q1, .inl (G.2.1 14, 20, .inl (fun _ => 0)))] H := hP
  have hD : va_D A [(q0, .inr (9, [.int 0, .ref q1, .null, .int 0])), (q1, .inl (G.2.1 14, 20, .inl (fun _ => 0)))] := hD
  refine lv_aload_n hx hb dX9_init_17 rfl (lv_at hl 0 rfl) ?_
  refine lv_bipush (v := 20) hx hb dX9_init_18 (by decide) ?_
  refine k_newaJ (ty := .long) hx hb (hts _ (List.mem_cons_of_mem _ mw64)) rfl rfl hK hP hD hS hA (a0 := (20, .inr (.inl (fun _ => 0)))) (fun _ => rfl) (by decide) rfl (Nat.le_of_ble_eq_true rfl) (Nat.le_of_ble_eq_true rfl) (Nat.le_of_ble_eq_true rfl) dX9_init_20 (fun q2 H hP hD hS => ?_)
  have hP : va_P G.1 vwCl [(q0, .inr (9, [.int 0, .ref q1, .null, .int 0])), (q1, .inl (G.2.1 14, 20, .inl (fun _ => 0))), (q2, .inl (G.2.1 15, 20, .inr (.inl (fun _ => 0))))] H := hP
  have hD : va_D A [(q0, .inr (9, [.int 0, .ref q1, .null, .int 0])), (q1, .inl (G.2.1 14, 20, .inl (fun _ => 0))), (q2, .inl (G.2.1 15, 20, .inr (.inl (fun _ => 0))))] := hD
  refine va_putF (D := G.1) (ci := 9) (v := .ref q2) (ty := .array (.long)) (C := RX9) (T := TX9) (N := 4) hx hb hts (fun _ h9 => List.mem_cons_of_mem _ (inU_wsX90 _ h9)) tyX9 tyX9_ok nmX9 hown hK.1 hP hD hS 0 rfl rfl 2 (by decide) (hts _ (List.mem_cons_of_mem _ mw211)) (fun _ h9 => h9) rfl hin rfl (by decide +kernel) rfl rfl (by exact Nat.le_of_ble_eq_true rfl) dX9_init_22 (fun H locs hP hD hS => ?_)
  have hP : va_P G.1 vwCl [(q0, .inr (9, [.int 0, .ref q1, .ref q2, .int 0])), (q1, .inl (G.2.1 14, 20, .inl (fun _ => 0))), (q2, .inl (G.2.1 15, 20, .inr (.inl (fun _ => 0))))] H := hP
  have hD : va_D A [(q0, .inr (9, [.int 0, .ref q1, .ref q2, .int 0])), (q1, .inl (G.2.1 14, 20, .inl (fun _ => 0))), (q2, .inl (G.2.1 15, 20, .inr (.inl (fun _ => 0))))] := hD
  refine lv_aload_n hx hb dX9_init_25 rfl (lv_at hl 0 rfl) ?_
  refine lv_iconst (v := 0) hx hb dX9_init_26 (by decide) ?_
  refine va_put (D := G.1) (ci := 9) (v := .int 0) (ty := .boolean) (C := RX9) (T := TX9) (N := 4) hx hb hts (fun _ h9 => List.mem_cons_of_mem _ (inU_wsX90 _ h9)) tyX9 tyX9_ok nmX9 hown hK.1 hP hD hS 0 rfl rfl 3 (by decide) (hts _ (List.mem_cons_of_mem _ mw212)) (fun _ h9 => h9) rfl (by decide +kernel) rfl rfl (by exact Nat.le_of_ble_eq_true rfl) dX9_init_27 (fun H locs hP hD hS => ?_)
  have hP : va_P G.1 vwCl [(q0, .inr (9, [.int 0, .ref q1, .ref q2, .int 0])), (q1, .inl (G.2.1 14, 20, .inl (fun _ => 0))), (q2, .inl (G.2.1 15, 20, .inr (.inl (fun _ => 0))))] H := hP
  have hD : va_D A [(q0, .inr (9, [.int 0, .ref q1, .ref q2, .int 0])), (q1, .inl (G.2.1 14, 20, .inl (fun _ => 0))), (q2, .inl (G.2.1 15, 20, .inr (.inl (fun _ => 0))))] := hD
  refine W.widen (k := 2) (n := 40) (Nat.le_of_ble_eq_true rfl) (Nat.le_of_ble_eq_true rfl) ?_
  exact W.vret hx hb hr (fun t ht hW => ⟨⟨(fun i => ([q0, q1, q2] : List Nat).getD i 0), rfl, trivial, by rw [ht]; exact hP, hD⟩, hS.F ht⟩) hS.2.2 dX9_init_30

abbrev ri_X10_init : Room := { frames := 2, cells := 6, slots := 62771, locals := 44 }
set_option maxRecDepth 100000 in
theorem i_X10_init (l : Launch) (G : wG) (q0 : Nat) (sz : Nat) : Met l yX10_init wUX10_init ri_X10_init (va_Pc [.ref q0] (fun U => U.heap.size = sz ∧ va_P G.1 vwCl [(q0, .inr (10, [.int 0, .int 0, .int 0, .null, .null, .null, .null]))] U.heap ∧ kK G U ∧ va_D (fun _ => True) [(q0, .inr (10, [.int 0, .int 0, .int 0, .null, .null, .null, .null]))])) (va_Qv (fun _ : Nat → Nat => True) (fun u t => va_P G.1 vwCl [(q0, .inr (10, [.int 0, .int 1, .int 0, .ref (u 1), .ref (u 2), .ref (u 3), .ref (u 4)])), ((u 1), .inl (G.2.1 15, 10000, .inr (.inl (fun _ => 0)))), ((u 2), .inl (G.2.1 14, 10000, .inl (fun _ => 0))), ((u 3), .inl (G.2.1 14, 10000, .inl (fun _ => 0))), ((u 4), .inr (4, [.ref (u 5), .ref (u 6), .int 16384])), ((u 5), .inl (G.2.1 15, 16384, .inr (.inl (fun _ => 0)))), ((u 6), .inl (G.2.1 14, 16384, .inl (fun _ => 0)))] t.heap ∧ va_D (va_A [(q0, .inr (10, [.int 0, .int 0, .int 0, .null, .null, .null, .null]))] sz) [(q0, .inr (10, [.int 0, .int 1, .int 0, .ref (u 1), .ref (u 2), .ref (u 3), .ref (u 4)])), ((u 1), .inl (G.2.1 15, 10000, .inr (.inl (fun _ => 0)))), ((u 2), .inl (G.2.1 14, 10000, .inl (fun _ => 0))), ((u 3), .inl (G.2.1 14, 10000, .inl (fun _ => 0))), ((u 4), .inr (4, [.ref (u 5), .ref (u 6), .int 16384])), ((u 5), .inl (G.2.1 15, 16384, .inr (.inl (fun _ => 0)))), ((u 6), .inl (G.2.1 14, 16384, .inl (fun _ => 0)))]) (va_A [(q0, .inr (10, [.int 0, .int 0, .int 0, .null, .null, .null, .null]))] sz)) 6 62771 (va_A [(q0, .inr (10, [.int 0, .int 0, .int 0, .null, .null, .null, .null]))] sz) := by
  refine Met.ofW (cc := cX10_init) (maxL := 1) (ret := none) (by decide) rfl ?_
  intro p e s m args below meth c s₁ B hml hv
  obtain ⟨rfl, hsz, hP, hK, hD0⟩ := hv
  have hx := B.exec
  have hb := B.bytes
  have hr := B.returns
  have hts := atoms_spec (ws := wUX10_init) B.pre
  have hown : s.vm.findClass RX10 = some m.cls := findClass_of_methodNamed B.named
  have hlocks := B.notSynchronized
  have hin : meth.name = "<init>" := (name_of_methodNamed B.named B.method).1
  subst hsz
  have hD := hD0.self (sz := s.heap.size)
  generalize hAe : va_A [(q0, .inr (10, [.int 0, .int 0, .int 0, .null, .null, .null, .null]))] s.heap.size = A at hD ⊢
  have hA : ∀ q : Nat, s.heap.size ≤ q → A q := fun q h => by rw [← hAe]; exact Or.inr h
  have hS : va_S A s.heap s.heap [] := va_S.rf
  have hl := lv_entry ([.ref q0]) (n := 1) (Nat.le_of_ble_eq_true rfl)
  rw [lg_entry_eq]
  generalize (lg_sl ([.ref q0]) ++ List.replicate (1 - (lg_sl ([.ref q0])).length) Slot.unset).toArray = ls at hl ⊢
  have hl : lv_has ls 1 [(0, .ref q0)] := hl
  refine lv_aload_n hx hb dX10_init_0 rfl (lv_at hl 0 rfl) ?_
  refine W.objInit hx hb hown (hts _ (List.mem_cons_of_mem _ mw215)) (hts _ (List.mem_cons_of_mem _ mw11)) (hts _ (List.mem_cons_of_mem _ mw12)) rfl (by rw [hml]; exact hl.1) rfl dX10_init_1 (Nat.le_of_ble_eq_true rfl) (Nat.le_of_ble_eq_true rfl) ?_
  refine W.eq (g2 := F0 m 4 ls []) rfl ?_
  refine lv_aload_n hx hb dX10_init_4 rfl (lv_at hl 0 rfl) ?_
  refine lv_iconst (v := 0) hx hb dX10_init_5 (by decide) ?_
  refine va_put (D := G.1) (ci := 10) (v := .int 0) (ty := .int) (C := RX10) (T := TX10) (N := 7) hx hb hts (fun _ h9 => List.mem_cons_of_mem _ (inU_wsX100 _ h9)) tyX10 tyX10_ok nmX10 hown hK.1 hP hD hS 0 rfl rfl 0 (by decide) (hts _ (List.mem_cons_of_mem _ mw216)) (fun _ h9 => h9) rfl (by decide +kernel) rfl rfl (by exact Nat.le_of_ble_eq_true rfl) dX10_init_6 (fun H locs hP hD hS => ?_)
  have hP : va_P G.1 vwCl [(q0, .inr (10, [.int 0, .int 0, .int 0, .null, .null, .null, .null]))] H := hP
  have hD : va_D A [(q0, .inr (10, [.int 0, .int 0, .int 0, .null, .null, .null, .null]))] := hD
  refine lv_aload_n hx hb dX10_init_9 rfl (lv_at hl 0 rfl) ?_
  refine lv_iconst (v := 1) hx hb dX10_init_10 (by decide) ?_
  refine va_put (D := G.1) (ci := 10) (v := .int 1) (ty := .int) (C := RX10) (T := TX10) (N := 7) hx hb hts (fun _ h9 => List.mem_cons_of_mem _ (inU_wsX100 _ h9)) tyX10 tyX10_ok nmX10 hown hK.1 hP hD hS 0 rfl rfl 1 (by decide) (hts _ (List.mem_cons_of_mem _ mw217)) (fun _ h9 => h9) rfl (by decide +kernel) rfl rfl (by exact Nat.le_of_ble_eq_true rfl) dX10_init_11 (fun H locs hP hD hS => ?_)
  have hP : va_P G.1 vwCl [(q0, .inr (10, [.int 0, .int 1, .int 0, .null, .null, .null, .null]))] H := hP
  have hD : va_D A [(q0, .inr (10, [.int 0, .int 1, .int 0, .null, .null, .null, .null]))] := hD
  refine lv_aload_n hx hb dX10_init_14 rfl (lv_at hl 0 rfl) ?_
  refine lv_iconst (v := 0) hx hb dX10_init_15 (by decide) ?_
  refine va_put (D := G.1) (ci := 10) (v := .int 0) (ty := .int) (C := RX10) (T := TX10) (N := 7) hx hb hts (fun _ h9 => List.mem_cons_of_mem _ (inU_wsX100 _ h9)) tyX10 tyX10_ok nmX10 hown hK.1 hP hD hS 0 rfl rfl 2 (by decide) (hts _ (List.mem_cons_of_mem _ mw218)) (fun _ h9 => h9) rfl (by decide +kernel) rfl rfl (by exact Nat.le_of_ble_eq_true rfl) dX10_init_16 (fun H locs hP hD hS => ?_)
  have hP : va_P G.1 vwCl [(q0, .inr (10, [.int 0, .int 1, .int 0, .null, .null, .null, .null]))] H := hP
  have hD : va_D A [(q0, .inr (10, [.int 0, .int 1, .int 0, .null, .null, .null, .null]))] := hD
  refine lv_aload_n hx hb dX10_init_19 rfl (lv_at hl 0 rfl) ?_
  refine lv_sipush (v := 10000) hx hb dX10_init_20 (by decide) ?_
  refine k_newaJ (ty := .long) hx hb (hts _ (List.mem_cons_of_mem _ mw64)) rfl rfl hK hP hD hS hA (a0 := (10000, .inr (.inl (fun _ => 0)))) (fun _ => rfl) (by decide) rfl (Nat.le_of_ble_eq_true rfl) (Nat.le_of_ble_eq_true rfl) (Nat.le_of_ble_eq_true rfl) dX10_init_23 (fun q1 H hP hD hS => ?_)
  have hP : va_P G.1 vwCl [(q0, .inr (10, [.int 0, .int 1, .int 0, .null, .null, .null, .null])), (q1, .inl (G.2.1 15, 10000, .inr (.inl (fun _ => 0))))] H := hP
  have hD : va_D A [(q0, .inr (10, [.int 0, .int 1, .int 0, .null, .null, .null, .null])), (q1, .inl (G.2.1 15, 10000, .inr (.inl (fun _ => 0))))] := hD
  refine va_putF (D := G.1) (ci := 10) (v := .ref q1) (ty := .array (.long)) (C := RX10) (T := TX10) (N := 7) hx hb hts (fun _ h9 => List.mem_cons_of_mem _ (inU_wsX100 _ h9)) tyX10 tyX10_ok nmX10 hown hK.1 hP hD hS 0 rfl rfl 3 (by decide) (hts _ (List.mem_cons_of_mem _ mw219)) (fun _ h9 => h9) rfl hin rfl (by decide +kernel) rfl rfl (by exact Nat.le_of_ble_eq_true rfl) dX10_init_25 (fun H locs hP hD hS => ?_)
  have hP : va_P G.1 vwCl [(q0, .inr (10, [.int 0, .int 1, .int 0, .ref q1, .null, .null, .null])), (q1, .inl (G.2.1 15, 10000, .inr (.inl (fun _ => 0))))] H := hP
  have hD : va_D A [(q0, .inr (10, [.int 0, .int 1, .int 0, .ref q1, .null, .null, .null])), (q1, .inl (G.2.1 15, 10000, .inr (.inl (fun _ => 0))))] := hD
  refine lv_aload_n hx hb dX10_init_28 rfl (lv_at hl 0 rfl) ?_
  refine lv_sipush (v := 10000) hx hb dX10_init_29 (by decide) ?_
  refine k_newaI (ty := .int) hx hb (hts _ (List.mem_cons_of_mem _ mw62)) rfl rfl hK hP hD hS hA (a0 := (10000, .inl (fun _ => 0))) (fun _ => rfl) (by decide) rfl (Nat.le_of_ble_eq_true rfl) (Nat.le_of_ble_eq_true rfl) (Nat.le_of_ble_eq_true rfl) dX10_init_32 (fun q2 H hP hD hS => ?_)
  have hP : va_P G.1 vwCl [(q0, .inr (10, [.int 0, .int 1, .int 0, .ref q1, .null, .null, .null])), (q1, .inl (G.2.1 15, 10000, .inr (.inl (fun _ => 0)))), (q2, .inl (G.2.1 14, 10000, .inl (fun _ => 0)))] H := hP
  have hD : va_D A [(q0, .inr (10, [.int 0, .int 1, .int 0, .ref q1, .null, .null, .null])), (q1, .inl (G.2.1 15, 10000, .inr (.inl (fun _ => 0)))), (q2, .inl (G.2.1 14, 10000, .inl (fun _ => 0)))] := hD
  refine va_putF (D := G.1) (ci := 10) (v := .ref q2) (ty := .array (.int)) (C := RX10) (T := TX10) (N := 7) hx hb hts (fun _ h9 => List.mem_cons_of_mem _ (inU_wsX100 _ h9)) tyX10 tyX10_ok nmX10 hown hK.1 hP hD hS 0 rfl rfl 4 (by decide) (hts _ (List.mem_cons_of_mem _ mw220)) (fun _ h9 => h9) rfl hin rfl (by decide +kernel) rfl rfl (by exact Nat.le_of_ble_eq_true rfl) dX10_init_34 (fun H locs hP hD hS => ?_)
  have hP : va_P G.1 vwCl [(q0, .inr (10, [.int 0, .int 1, .int 0, .ref q1, .ref q2, .null, .null])), (q1, .inl (G.2.1 15, 10000, .inr (.inl (fun _ => 0)))), (q2, .inl (G.2.1 14, 10000, .inl (fun _ => 0)))] H := hP
  have hD : va_D A [(q0, .inr (10, [.int 0, .int 1, .int 0, .ref q1, .ref q2, .null, .null])), (q1, .inl (G.2.1 15, 10000, .inr (.inl (fun _ => 0)))), (q2, .inl (G.2.1 14, 10000, .inl (fun _ => 0)))] := hD
  refine lv_aload_n hx hb dX10_init_37 rfl (lv_at hl 0 rfl) ?_
  refine lv_sipush (v := 10000) hx hb dX10_init_38 (by decide) ?_
  refine k_newaI (ty := .int) hx hb (hts _ (List.mem_cons_of_mem _ mw62)) rfl rfl hK hP hD hS hA (a0 := (10000, .inl (fun _ => 0))) (fun _ => rfl) (by decide) rfl (Nat.le_of_ble_eq_true rfl) (Nat.le_of_ble_eq_true rfl) (Nat.le_of_ble_eq_true rfl) dX10_init_41 (fun q3 H hP hD hS => ?_)
  have hP : va_P G.1 vwCl [(q0, .inr (10, [.int 0, .int 1, .int 0, .ref q1, .ref q2, .null, .null])), (q1, .inl (G.2.1 15, 10000, .inr (.inl (fun _ => 0)))), (q2, .inl (G.2.1 14, 10000, .inl (fun _ => 0))), (q3, .inl (G.2.1 14, 10000, .inl (fun _ => 0)))] H := hP
  have hD : va_D A [(q0, .inr (10, [.int 0, .int 1, .int 0, .ref q1, .ref q2, .null, .null])), (q1, .inl (G.2.1 15, 10000, .inr (.inl (fun _ => 0)))), (q2, .inl (G.2.1 14, 10000, .inl (fun _ => 0))), (q3, .inl (G.2.1 14, 10000, .inl (fun _ => 0)))] := hD
  refine va_putF (D := G.1) (ci := 10) (v := .ref q3) (ty := .array (.int)) (C := RX10) (T := TX10) (N := 7) hx hb hts (fun _ h9 => List.mem_cons_of_mem _ (inU_wsX100 _ h9)) tyX10 tyX10_ok nmX10 hown hK.1 hP hD hS 0 rfl rfl 5 (by decide) (hts _ (List.mem_cons_of_mem _ mw221)) (fun _ h9 => h9) rfl hin rfl (by decide +kernel) rfl rfl (by exact Nat.le_of_ble_eq_true rfl) dX10_init_43 (fun H locs hP hD hS => ?_)
  have hP : va_P G.1 vwCl [(q0, .inr (10, [.int 0, .int 1, .int 0, .ref q1, .ref q2, .ref q3, .null])), (q1, .inl (G.2.1 15, 10000, .inr (.inl (fun _ => 0)))), (q2, .inl (G.2.1 14, 10000, .inl (fun _ => 0))), (q3, .inl (G.2.1 14, 10000, .inl (fun _ => 0)))] H := hP
  have hD : va_D A [(q0, .inr (10, [.int 0, .int 1, .int 0, .ref q1, .ref q2, .ref q3, .null])), (q1, .inl (G.2.1 15, 10000, .inr (.inl (fun _ => 0)))), (q2, .inl (G.2.1 14, 10000, .inl (fun _ => 0))), (q3, .inl (G.2.1 14, 10000, .inl (fun _ => 0)))] := hD
  refine lv_aload_n hx hb dX10_init_46 rfl (lv_at hl 0 rfl) ?_
  refine va_new (ci := 4) (fs := [.null, .null, .int 0]) (C := RX4) (T := TX4) (N := 3) hx hb hts (fun _ h9 => List.mem_cons_of_mem _ (inU_wsX40 _ h9)) tyX4 tyX4_ok hown (hts _ (List.mem_cons_of_mem _ mw222)) (hts _ (List.mem_cons_of_mem _ mw223)) (hts _ (List.mem_cons_of_mem _ mw224)) hK.1 hP hD hS hA rfl (by decide) (Nat.le_of_ble_eq_true rfl) (Nat.le_of_ble_eq_true rfl) dX10_init_47 (fun q4 H hP hD hS => ?_)
  have hP : va_P G.1 vwCl [(q0, .inr (10, [.int 0, .int 1, .int 0, .ref q1, .ref q2, .ref q3, .null])), (q1, .inl (G.2.1 15, 10000, .inr (.inl (fun _ => 0)))), (q2, .inl (G.2.1 14, 10000, .inl (fun _ => 0))), (q3, .inl (G.2.1 14, 10000, .inl (fun _ => 0))), (q4, .inr (4, [.null, .null, .int 0]))] H := hP
  have hD : va_D A [(q0, .inr (10, [.int 0, .int 1, .int 0, .ref q1, .ref q2, .ref q3, .null])), (q1, .inl (G.2.1 15, 10000, .inr (.inl (fun _ => 0)))), (q2, .inl (G.2.1 14, 10000, .inl (fun _ => 0))), (q3, .inl (G.2.1 14, 10000, .inl (fun _ => 0))), (q4, .inr (4, [.null, .null, .int 0]))] := hD
  refine lv_dup hx hb dX10_init_50 rfl ?_
  have hPc := hP.sub (ws' := [(q4, .inr (4, [.null, .null, .int 0]))]) [4] rfl
  have hDc := hD.sub (ws' := [(q4, .inr (4, [.null, .null, .int 0]))]) [4] (by decide) rfl
  have hFc := va_free (wc := [(q4, .inr (4, [.null, .null, .int 0]))]) hD hS hA [4] rfl
  refine va_callv (va_runIN (As := []) (rest := [.ref q4, .ref q0]) ⟨hx, hb, hml, hown, hts⟩ (i_X4_init l G q4 H.size) ⟨va_cnB 0 hts (gU_C mw227) rfl rfl rfl (hK.2.1 _ (List.mem_of_getElem? (i := 9) rfl)) (hts _ (List.mem_cons_of_mem _ mw224)) (by decide +kernel) ⟨Nat.le_of_ble_eq_true rfl, Nat.le_of_ble_eq_true rfl⟩, rfl, (hts _ (List.mem_cons_of_mem _ mw226))⟩ ⟨i_blind, fun U hU hWm => ⟨rfl, by rw [hU], by rw [hU]; exact hPc, kK_moved hWm hK, hDc.weaken (fun _ _ _ _ => trivial)⟩⟩ rfl rfl hl.1 rfl (lv_room (Nat.le_of_ble_eq_true rfl)) dX10_init_51 ⟨Nat.le_of_ble_eq_true rfl, Nat.le_of_ble_eq_true rfl⟩) hS (fun q _ h => hFc q h) hFc (fun u5 t H1 locs ht hvm hw hB hz1 hk1 hS => ?_)
  obtain ⟨hP1, hD1⟩ := hB
  rw [ht] at hP1
  have hP1 : va_P G.1 vwCl [(q4, .inr (4, [.ref (u5 1), .ref (u5 2), .int 16384])), ((u5 1), .inl (G.2.1 15, 16384, .inr (.inl (fun _ => 0)))), ((u5 2), .inl (G.2.1 14, 16384, .inl (fun _ => 0)))] H1 := hP1
  have hD1 : va_D _ [(q4, .inr (4, [.ref (u5 1), .ref (u5 2), .int 16384])), ((u5 1), .inl (G.2.1 15, 16384, .inr (.inl (fun _ => 0)))), ((u5 2), .inl (G.2.1 14, 16384, .inl (fun _ => 0)))] := hD1
  obtain ⟨hP, hD⟩ := va_join (wr := [(q0, .inr (10, [.int 0, .int 1, .int 0, .ref q1, .ref q2, .ref q3, .null])), (q1, .inl (G.2.1 15, 10000, .inr (.inl (fun _ => 0)))), (q2, .inl (G.2.1 14, 10000, .inl (fun _ => 0))), (q3, .inl (G.2.1 14, 10000, .inl (fun _ => 0)))]) (w1 := [(q4, .inr (4, [.ref (u5 1), .ref (u5 2), .int 16384])), ((u5 1), .inl (G.2.1 15, 16384, .inr (.inl (fun _ => 0)))), ((u5 2), .inl (G.2.1 14, 16384, .inl (fun _ => 0)))]) hP hD [4] [0, 1, 2, 3] rfl rfl (by decide) (by decide) hk1 hFc hP1 hD1
  generalize H1 = H at hP hS ⊢
  have hP : va_P G.1 vwCl [(q0, .inr (10, [.int 0, .int 1, .int 0, .ref q1, .ref q2, .ref q3, .null])), (q1, .inl (G.2.1 15, 10000, .inr (.inl (fun _ => 0)))), (q2, .inl (G.2.1 14, 10000, .inl (fun _ => 0))), (q3, .inl (G.2.1 14, 10000, .inl (fun _ => 0))), (q4, .inr (4, [.ref (u5 1), .ref (u5 2), .int 16384])), ((u5 1), .inl (G.2.1 15, 16384, .inr (.inl (fun _ => 0)))), ((u5 2), .inl (G.2.1 14, 16384, .inl (fun _ => 0)))] H := hP
  have hD : va_D A [(q0, .inr (10, [.int 0, .int 1, .int 0, .ref q1, .ref q2, .ref q3, .null])), (q1, .inl (G.2.1 15, 10000, .inr (.inl (fun _ => 0)))), (q2, .inl (G.2.1 14, 10000, .inl (fun _ => 0))), (q3, .inl (G.2.1 14, 10000, .inl (fun _ => 0))), (q4, .inr (4, [.ref (u5 1), .ref (u5 2), .int 16384])), ((u5 1), .inl (G.2.1 15, 16384, .inr (.inl (fun _ => 0)))), ((u5 2), .inl (G.2.1 14, 16384, .inl (fun _ => 0)))] := hD
  refine va_putF (D := G.1) (ci := 10) (v := .ref q4) (ty := .object "TwoAsks$Leaders") (C := RX10) (T := TX10) (N := 7) hx hb hts (fun _ h9 => List.mem_cons_of_mem _ (inU_wsX100 _ h9)) tyX10 tyX10_ok nmX10 hown hK.1 hP hD hS 0 rfl rfl 6 (by decide) (hts _ (List.mem_cons_of_mem _ mw225)) (fun _ h9 => h9) rfl hin rfl (by decide +kernel) rfl rfl (by exact Nat.le_of_ble_eq_true rfl) dX10_init_54 (fun H locs hP hD hS => ?_)
  have hP : va_P G.1 vwCl [(q0, .inr (10, [.int 0, .int 1, .int 0, .ref q1, .ref q2, .ref q3, .ref q4])), (q1, .inl (G.2.1 15, 10000, .inr (.inl (fun _ => 0)))), (q2, .inl (G.2.1 14, 10000, .inl (fun _ => 0))), (q3, .inl (G.2.1 14, 10000, .inl (fun _ => 0))), (q4, .inr (4, [.ref (u5 1), .ref (u5 2), .int 16384])), ((u5 1), .inl (G.2.1 15, 16384, .inr (.inl (fun _ => 0)))), ((u5 2), .inl (G.2.1 14, 16384, .inl (fun _ => 0)))] H := hP
  have hD : va_D A [(q0, .inr (10, [.int 0, .int 1, .int 0, .ref q1, .ref q2, .ref q3, .ref q4])), (q1, .inl (G.2.1 15, 10000, .inr (.inl (fun _ => 0)))), (q2, .inl (G.2.1 14, 10000, .inl (fun _ => 0))), (q3, .inl (G.2.1 14, 10000, .inl (fun _ => 0))), (q4, .inr (4, [.ref (u5 1), .ref (u5 2), .int 16384])), ((u5 1), .inl (G.2.1 15, 16384, .inr (.inl (fun _ => 0)))), ((u5 2), .inl (G.2.1 14, 16384, .inl (fun _ => 0)))] := hD
  refine W.widen (k := 6) (n := 62771) (Nat.le_of_ble_eq_true rfl) (Nat.le_of_ble_eq_true rfl) ?_
  exact W.vret hx hb hr (fun t ht hW => ⟨⟨(fun i => ([q0, q1, q2, q3, q4, (u5 1), (u5 2)] : List Nat).getD i 0), rfl, trivial, by rw [ht]; exact hP, hD⟩, hS.F ht⟩) hS.2.2 dX10_init_57

abbrev ri_X3_init : Room := { frames := 2, cells := 6, slots := 878, locals := 44 }
set_option maxRecDepth 100000 in
theorem i_X3_init (l : Launch) (G : wG) (q0 : Nat) (sz : Nat) : Met l yX3_init wUX3_init ri_X3_init (va_Pc [.ref q0] (fun U => U.heap.size = sz ∧ va_P G.1 vwCl [(q0, .inr (3, [.null, .int 0, .int 0, .int 0, .int 0, .int 0, .int 0, .int 0, .null, .int 0]))] U.heap ∧ kK G U ∧ va_D (fun _ => True) [(q0, .inr (3, [.null, .int 0, .int 0, .int 0, .int 0, .int 0, .int 0, .int 0, .null, .int 0]))])) (va_Qv (fun _ : Nat → Nat => True) (fun u t => va_P G.1 vwCl [(q0, .inr (3, [.ref (u 1), .int 1, .int 1, .int 1, .int 59, .int 0, .int 0, .int 0, .ref (u 6), .int 0])), ((u 1), .inr (2, [.ref (u 2), .ref (u 3), .int 0, .ref (u 4), .ref (u 5)])), ((u 2), .inl (G.2.1 14, 402, .inl (fun _ => 0))), ((u 3), .inl (G.2.1 14, 402, .inl (fun _ => 0))), ((u 4), .inl (G.2.1 14, 6, .inl (fun _ => 0))), ((u 5), .inl (G.2.1 14, 42, .inl (fun _ => 0))), ((u 6), .inl (G.2.1 14, 21, .inl (fun _ => 0)))] t.heap ∧ va_D (va_A [(q0, .inr (3, [.null, .int 0, .int 0, .int 0, .int 0, .int 0, .int 0, .int 0, .null, .int 0]))] sz) [(q0, .inr (3, [.ref (u 1), .int 1, .int 1, .int 1, .int 59, .int 0, .int 0, .int 0, .ref (u 6), .int 0])), ((u 1), .inr (2, [.ref (u 2), .ref (u 3), .int 0, .ref (u 4), .ref (u 5)])), ((u 2), .inl (G.2.1 14, 402, .inl (fun _ => 0))), ((u 3), .inl (G.2.1 14, 402, .inl (fun _ => 0))), ((u 4), .inl (G.2.1 14, 6, .inl (fun _ => 0))), ((u 5), .inl (G.2.1 14, 42, .inl (fun _ => 0))), ((u 6), .inl (G.2.1 14, 21, .inl (fun _ => 0)))]) (va_A [(q0, .inr (3, [.null, .int 0, .int 0, .int 0, .int 0, .int 0, .int 0, .int 0, .null, .int 0]))] sz)) 6 878 (va_A [(q0, .inr (3, [.null, .int 0, .int 0, .int 0, .int 0, .int 0, .int 0, .int 0, .null, .int 0]))] sz) := by
  refine Met.ofW (cc := cX3_init) (maxL := 1) (ret := none) (by decide) rfl ?_
  intro p e s m args below meth c s₁ B hml hv
  obtain ⟨rfl, hsz, hP, hK, hD0⟩ := hv
  have hx := B.exec
  have hb := B.bytes
  have hr := B.returns
  have hts := atoms_spec (ws := wUX3_init) B.pre
  have hown : s.vm.findClass RX3 = some m.cls := findClass_of_methodNamed B.named
  have hlocks := B.notSynchronized
  have hin : meth.name = "<init>" := (name_of_methodNamed B.named B.method).1
  subst hsz
  have hD := hD0.self (sz := s.heap.size)
  generalize hAe : va_A [(q0, .inr (3, [.null, .int 0, .int 0, .int 0, .int 0, .int 0, .int 0, .int 0, .null, .int 0]))] s.heap.size = A at hD ⊢
  have hA : ∀ q : Nat, s.heap.size ≤ q → A q := fun q h => by rw [← hAe]; exact Or.inr h
  have hS : va_S A s.heap s.heap [] := va_S.rf
  have hl := lv_entry ([.ref q0]) (n := 1) (Nat.le_of_ble_eq_true rfl)
  rw [lg_entry_eq]
  generalize (lg_sl ([.ref q0]) ++ List.replicate (1 - (lg_sl ([.ref q0])).length) Slot.unset).toArray = ls at hl ⊢
  have hl : lv_has ls 1 [(0, .ref q0)] := hl
  refine lv_aload_n hx hb dX3_init_0 rfl (lv_at hl 0 rfl) ?_
  refine W.objInit hx hb hown (hts _ (List.mem_cons_of_mem _ mw193)) (hts _ (List.mem_cons_of_mem _ mw11)) (hts _ (List.mem_cons_of_mem _ mw12)) rfl (by rw [hml]; exact hl.1) rfl dX3_init_1 (Nat.le_of_ble_eq_true rfl) (Nat.le_of_ble_eq_true rfl) ?_
  refine W.eq (g2 := F0 m 4 ls []) rfl ?_
  refine lv_aload_n hx hb dX3_init_4 rfl (lv_at hl 0 rfl) ?_
  refine va_new (ci := 2) (fs := [.null, .null, .int 0, .null, .null]) (C := RX2) (T := TX2) (N := 5) hx hb hts (fun _ h9 => List.mem_cons_of_mem _ (inU_wsX20 _ h9)) tyX2 tyX2_ok hown (hts _ (List.mem_cons_of_mem _ mw194)) (hts _ (List.mem_cons_of_mem _ mw68)) (hts _ (List.mem_cons_of_mem _ mw69)) hK.1 hP hD hS hA rfl (by decide) (Nat.le_of_ble_eq_true rfl) (Nat.le_of_ble_eq_true rfl) dX3_init_5 (fun q1 H hP hD hS => ?_)
  have hP : va_P G.1 vwCl [(q0, .inr (3, [.null, .int 0, .int 0, .int 0, .int 0, .int 0, .int 0, .int 0, .null, .int 0])), (q1, .inr (2, [.null, .null, .int 0, .null, .null]))] H := hP
  have hD : va_D A [(q0, .inr (3, [.null, .int 0, .int 0, .int 0, .int 0, .int 0, .int 0, .int 0, .null, .int 0])), (q1, .inr (2, [.null, .null, .int 0, .null, .null]))] := hD
  refine lv_dup hx hb dX3_init_8 rfl ?_
  have hPc := hP.sub (ws' := [(q1, .inr (2, [.null, .null, .int 0, .null, .null]))]) [1] rfl
  have hDc := hD.sub (ws' := [(q1, .inr (2, [.null, .null, .int 0, .null, .null]))]) [1] (by decide) rfl
  have hFc := va_free (wc := [(q1, .inr (2, [.null, .null, .int 0, .null, .null]))]) hD hS hA [1] rfl
  refine va_callv (va_runIN (As := []) (rest := [.ref q1, .ref q0]) ⟨hx, hb, hml, hown, hts⟩ (i_X2_init l G q1 H.size) ⟨va_cnB 0 hts (gU_C mw83) rfl rfl rfl (hK.2.1 _ (List.mem_of_getElem? (i := 6) rfl)) (hts _ (List.mem_cons_of_mem _ mw69)) (by decide +kernel) ⟨Nat.le_of_ble_eq_true rfl, Nat.le_of_ble_eq_true rfl⟩, rfl, (hts _ (List.mem_cons_of_mem _ mw82))⟩ ⟨i_blind, fun U hU hWm => ⟨rfl, by rw [hU], by rw [hU]; exact hPc, kK_moved hWm hK, hDc.weaken (fun _ _ _ _ => trivial)⟩⟩ rfl rfl hl.1 rfl (lv_room (Nat.le_of_ble_eq_true rfl)) dX3_init_9 ⟨Nat.le_of_ble_eq_true rfl, Nat.le_of_ble_eq_true rfl⟩) hS (fun q _ h => hFc q h) hFc (fun u2 t H1 locs ht hvm hw hB hz1 hk1 hS => ?_)
  obtain ⟨hP1, hD1⟩ := hB
  rw [ht] at hP1
  have hP1 : va_P G.1 vwCl [(q1, .inr (2, [.ref (u2 1), .ref (u2 2), .int 0, .ref (u2 3), .ref (u2 4)])), ((u2 1), .inl (G.2.1 14, 402, .inl (fun _ => 0))), ((u2 2), .inl (G.2.1 14, 402, .inl (fun _ => 0))), ((u2 3), .inl (G.2.1 14, 6, .inl (fun _ => 0))), ((u2 4), .inl (G.2.1 14, 42, .inl (fun _ => 0)))] H1 := hP1
  have hD1 : va_D _ [(q1, .inr (2, [.ref (u2 1), .ref (u2 2), .int 0, .ref (u2 3), .ref (u2 4)])), ((u2 1), .inl (G.2.1 14, 402, .inl (fun _ => 0))), ((u2 2), .inl (G.2.1 14, 402, .inl (fun _ => 0))), ((u2 3), .inl (G.2.1 14, 6, .inl (fun _ => 0))), ((u2 4), .inl (G.2.1 14, 42, .inl (fun _ => 0)))] := hD1
  obtain ⟨hP, hD⟩ := va_join (wr := [(q0, .inr (3, [.null, .int 0, .int 0, .int 0, .int 0, .int 0, .int 0, .int 0, .null, .int 0]))]) (w1 := [(q1, .inr (2, [.ref (u2 1), .ref (u2 2), .int 0, .ref (u2 3), .ref (u2 4)])), ((u2 1), .inl (G.2.1 14, 402, .inl (fun _ => 0))), ((u2 2), .inl (G.2.1 14, 402, .inl (fun _ => 0))), ((u2 3), .inl (G.2.1 14, 6, .inl (fun _ => 0))), ((u2 4), .inl (G.2.1 14, 42, .inl (fun _ => 0)))]) hP hD [1] [0] rfl rfl (by decide) (by decide) hk1 hFc hP1 hD1
  generalize H1 = H at hP hS ⊢
  have hP : va_P G.1 vwCl [(q0, .inr (3, [.null, .int 0, .int 0, .int 0, .int 0, .int 0, .int 0, .int 0, .null, .int 0])), (q1, .inr (2, [.ref (u2 1), .ref (u2 2), .int 0, .ref (u2 3), .ref (u2 4)])), ((u2 1), .inl (G.2.1 14, 402, .inl (fun _ => 0))), ((u2 2), .inl (G.2.1 14, 402, .inl (fun _ => 0))), ((u2 3), .inl (G.2.1 14, 6, .inl (fun _ => 0))), ((u2 4), .inl (G.2.1 14, 42, .inl (fun _ => 0)))] H := hP
  have hD : va_D A [(q0, .inr (3, [.null, .int 0, .int 0, .int 0, .int 0, .int 0, .int 0, .int 0, .null, .int 0])), (q1, .inr (2, [.ref (u2 1), .ref (u2 2), .int 0, .ref (u2 3), .ref (u2 4)])), ((u2 1), .inl (G.2.1 14, 402, .inl (fun _ => 0))), ((u2 2), .inl (G.2.1 14, 402, .inl (fun _ => 0))), ((u2 3), .inl (G.2.1 14, 6, .inl (fun _ => 0))), ((u2 4), .inl (G.2.1 14, 42, .inl (fun _ => 0)))] := hD
  refine va_putF (D := G.1) (ci := 3) (v := .ref q1) (ty := .object "TwoAsks$Law") (C := RX3) (T := TX3) (N := 10) hx hb hts (fun _ h9 => List.mem_cons_of_mem _ (inU_wsX30 _ h9)) tyX3 tyX3_ok nmX3 hown hK.1 hP hD hS 0 rfl rfl 0 (by decide) (hts _ (List.mem_cons_of_mem _ mw195)) (fun _ h9 => h9) rfl hin rfl (by decide +kernel) rfl rfl (by exact Nat.le_of_ble_eq_true rfl) dX3_init_12 (fun H locs hP hD hS => ?_)
  have hP : va_P G.1 vwCl [(q0, .inr (3, [.ref q1, .int 0, .int 0, .int 0, .int 0, .int 0, .int 0, .int 0, .null, .int 0])), (q1, .inr (2, [.ref (u2 1), .ref (u2 2), .int 0, .ref (u2 3), .ref (u2 4)])), ((u2 1), .inl (G.2.1 14, 402, .inl (fun _ => 0))), ((u2 2), .inl (G.2.1 14, 402, .inl (fun _ => 0))), ((u2 3), .inl (G.2.1 14, 6, .inl (fun _ => 0))), ((u2 4), .inl (G.2.1 14, 42, .inl (fun _ => 0)))] H := hP
  have hD : va_D A [(q0, .inr (3, [.ref q1, .int 0, .int 0, .int 0, .int 0, .int 0, .int 0, .int 0, .null, .int 0])), (q1, .inr (2, [.ref (u2 1), .ref (u2 2), .int 0, .ref (u2 3), .ref (u2 4)])), ((u2 1), .inl (G.2.1 14, 402, .inl (fun _ => 0))), ((u2 2), .inl (G.2.1 14, 402, .inl (fun _ => 0))), ((u2 3), .inl (G.2.1 14, 6, .inl (fun _ => 0))), ((u2 4), .inl (G.2.1 14, 42, .inl (fun _ => 0)))] := hD
  refine lv_aload_n hx hb dX3_init_15 rfl (lv_at hl 0 rfl) ?_
  refine lv_iconst (v := 1) hx hb dX3_init_16 (by decide) ?_
  refine va_put (D := G.1) (ci := 3) (v := .int 1) (ty := .boolean) (C := RX3) (T := TX3) (N := 10) hx hb hts (fun _ h9 => List.mem_cons_of_mem _ (inU_wsX30 _ h9)) tyX3 tyX3_ok nmX3 hown hK.1 hP hD hS 0 rfl rfl 1 (by decide) (hts _ (List.mem_cons_of_mem _ mw196)) (fun _ h9 => h9) rfl (by decide +kernel) rfl rfl (by exact Nat.le_of_ble_eq_true rfl) dX3_init_17 (fun H locs hP hD hS => ?_)
  have hP : va_P G.1 vwCl [(q0, .inr (3, [.ref q1, .int 1, .int 0, .int 0, .int 0, .int 0, .int 0, .int 0, .null, .int 0])), (q1, .inr (2, [.ref (u2 1), .ref (u2 2), .int 0, .ref (u2 3), .ref (u2 4)])), ((u2 1), .inl (G.2.1 14, 402, .inl (fun _ => 0))), ((u2 2), .inl (G.2.1 14, 402, .inl (fun _ => 0))), ((u2 3), .inl (G.2.1 14, 6, .inl (fun _ => 0))), ((u2 4), .inl (G.2.1 14, 42, .inl (fun _ => 0)))] H := hP
  have hD : va_D A [(q0, .inr (3, [.ref q1, .int 1, .int 0, .int 0, .int 0, .int 0, .int 0, .int 0, .null, .int 0])), (q1, .inr (2, [.ref (u2 1), .ref (u2 2), .int 0, .ref (u2 3), .ref (u2 4)])), ((u2 1), .inl (G.2.1 14, 402, .inl (fun _ => 0))), ((u2 2), .inl (G.2.1 14, 402, .inl (fun _ => 0))), ((u2 3), .inl (G.2.1 14, 6, .inl (fun _ => 0))), ((u2 4), .inl (G.2.1 14, 42, .inl (fun _ => 0)))] := hD
  refine lv_aload_n hx hb dX3_init_20 rfl (lv_at hl 0 rfl) ?_
  refine lv_iconst (v := 1) hx hb dX3_init_21 (by decide) ?_
  refine va_put (D := G.1) (ci := 3) (v := .int 1) (ty := .boolean) (C := RX3) (T := TX3) (N := 10) hx hb hts (fun _ h9 => List.mem_cons_of_mem _ (inU_wsX30 _ h9)) tyX3 tyX3_ok nmX3 hown hK.1 hP hD hS 0 rfl rfl 2 (by decide) (hts _ (List.mem_cons_of_mem _ mw197)) (fun _ h9 => h9) rfl (by decide +kernel) rfl rfl (by exact Nat.le_of_ble_eq_true rfl) dX3_init_22 (fun H locs hP hD hS => ?_)
  have hP : va_P G.1 vwCl [(q0, .inr (3, [.ref q1, .int 1, .int 1, .int 0, .int 0, .int 0, .int 0, .int 0, .null, .int 0])), (q1, .inr (2, [.ref (u2 1), .ref (u2 2), .int 0, .ref (u2 3), .ref (u2 4)])), ((u2 1), .inl (G.2.1 14, 402, .inl (fun _ => 0))), ((u2 2), .inl (G.2.1 14, 402, .inl (fun _ => 0))), ((u2 3), .inl (G.2.1 14, 6, .inl (fun _ => 0))), ((u2 4), .inl (G.2.1 14, 42, .inl (fun _ => 0)))] H := hP
  have hD : va_D A [(q0, .inr (3, [.ref q1, .int 1, .int 1, .int 0, .int 0, .int 0, .int 0, .int 0, .null, .int 0])), (q1, .inr (2, [.ref (u2 1), .ref (u2 2), .int 0, .ref (u2 3), .ref (u2 4)])), ((u2 1), .inl (G.2.1 14, 402, .inl (fun _ => 0))), ((u2 2), .inl (G.2.1 14, 402, .inl (fun _ => 0))), ((u2 3), .inl (G.2.1 14, 6, .inl (fun _ => 0))), ((u2 4), .inl (G.2.1 14, 42, .inl (fun _ => 0)))] := hD
  refine lv_aload_n hx hb dX3_init_25 rfl (lv_at hl 0 rfl) ?_
  refine lv_iconst (v := 1) hx hb dX3_init_26 (by decide) ?_
  refine va_put (D := G.1) (ci := 3) (v := .int 1) (ty := .boolean) (C := RX3) (T := TX3) (N := 10) hx hb hts (fun _ h9 => List.mem_cons_of_mem _ (inU_wsX30 _ h9)) tyX3 tyX3_ok nmX3 hown hK.1 hP hD hS 0 rfl rfl 3 (by decide) (hts _ (List.mem_cons_of_mem _ mw198)) (fun _ h9 => h9) rfl (by decide +kernel) rfl rfl (by exact Nat.le_of_ble_eq_true rfl) dX3_init_27 (fun H locs hP hD hS => ?_)
  have hP : va_P G.1 vwCl [(q0, .inr (3, [.ref q1, .int 1, .int 1, .int 1, .int 0, .int 0, .int 0, .int 0, .null, .int 0])), (q1, .inr (2, [.ref (u2 1), .ref (u2 2), .int 0, .ref (u2 3), .ref (u2 4)])), ((u2 1), .inl (G.2.1 14, 402, .inl (fun _ => 0))), ((u2 2), .inl (G.2.1 14, 402, .inl (fun _ => 0))), ((u2 3), .inl (G.2.1 14, 6, .inl (fun _ => 0))), ((u2 4), .inl (G.2.1 14, 42, .inl (fun _ => 0)))] H := hP
  have hD : va_D A [(q0, .inr (3, [.ref q1, .int 1, .int 1, .int 1, .int 0, .int 0, .int 0, .int 0, .null, .int 0])), (q1, .inr (2, [.ref (u2 1), .ref (u2 2), .int 0, .ref (u2 3), .ref (u2 4)])), ((u2 1), .inl (G.2.1 14, 402, .inl (fun _ => 0))), ((u2 2), .inl (G.2.1 14, 402, .inl (fun _ => 0))), ((u2 3), .inl (G.2.1 14, 6, .inl (fun _ => 0))), ((u2 4), .inl (G.2.1 14, 42, .inl (fun _ => 0)))] := hD
  refine lv_aload_n hx hb dX3_init_30 rfl (lv_at hl 0 rfl) ?_
  refine lv_bipush (v := 59) hx hb dX3_init_31 (by decide) ?_
  refine va_put (D := G.1) (ci := 3) (v := .int 59) (ty := .int) (C := RX3) (T := TX3) (N := 10) hx hb hts (fun _ h9 => List.mem_cons_of_mem _ (inU_wsX30 _ h9)) tyX3 tyX3_ok nmX3 hown hK.1 hP hD hS 0 rfl rfl 4 (by decide) (hts _ (List.mem_cons_of_mem _ mw199)) (fun _ h9 => h9) rfl (by decide +kernel) rfl rfl (by exact Nat.le_of_ble_eq_true rfl) dX3_init_33 (fun H locs hP hD hS => ?_)
  have hP : va_P G.1 vwCl [(q0, .inr (3, [.ref q1, .int 1, .int 1, .int 1, .int 59, .int 0, .int 0, .int 0, .null, .int 0])), (q1, .inr (2, [.ref (u2 1), .ref (u2 2), .int 0, .ref (u2 3), .ref (u2 4)])), ((u2 1), .inl (G.2.1 14, 402, .inl (fun _ => 0))), ((u2 2), .inl (G.2.1 14, 402, .inl (fun _ => 0))), ((u2 3), .inl (G.2.1 14, 6, .inl (fun _ => 0))), ((u2 4), .inl (G.2.1 14, 42, .inl (fun _ => 0)))] H := hP
  have hD : va_D A [(q0, .inr (3, [.ref q1, .int 1, .int 1, .int 1, .int 59, .int 0, .int 0, .int 0, .null, .int 0])), (q1, .inr (2, [.ref (u2 1), .ref (u2 2), .int 0, .ref (u2 3), .ref (u2 4)])), ((u2 1), .inl (G.2.1 14, 402, .inl (fun _ => 0))), ((u2 2), .inl (G.2.1 14, 402, .inl (fun _ => 0))), ((u2 3), .inl (G.2.1 14, 6, .inl (fun _ => 0))), ((u2 4), .inl (G.2.1 14, 42, .inl (fun _ => 0)))] := hD
  refine lv_aload_n hx hb dX3_init_36 rfl (lv_at hl 0 rfl) ?_
  refine lv_iconst (v := 0) hx hb dX3_init_37 (by decide) ?_
  refine va_put (D := G.1) (ci := 3) (v := .int 0) (ty := .int) (C := RX3) (T := TX3) (N := 10) hx hb hts (fun _ h9 => List.mem_cons_of_mem _ (inU_wsX30 _ h9)) tyX3 tyX3_ok nmX3 hown hK.1 hP hD hS 0 rfl rfl 5 (by decide) (hts _ (List.mem_cons_of_mem _ mw200)) (fun _ h9 => h9) rfl (by decide +kernel) rfl rfl (by exact Nat.le_of_ble_eq_true rfl) dX3_init_38 (fun H locs hP hD hS => ?_)
  have hP : va_P G.1 vwCl [(q0, .inr (3, [.ref q1, .int 1, .int 1, .int 1, .int 59, .int 0, .int 0, .int 0, .null, .int 0])), (q1, .inr (2, [.ref (u2 1), .ref (u2 2), .int 0, .ref (u2 3), .ref (u2 4)])), ((u2 1), .inl (G.2.1 14, 402, .inl (fun _ => 0))), ((u2 2), .inl (G.2.1 14, 402, .inl (fun _ => 0))), ((u2 3), .inl (G.2.1 14, 6, .inl (fun _ => 0))), ((u2 4), .inl (G.2.1 14, 42, .inl (fun _ => 0)))] H := hP
  have hD : va_D A [(q0, .inr (3, [.ref q1, .int 1, .int 1, .int 1, .int 59, .int 0, .int 0, .int 0, .null, .int 0])), (q1, .inr (2, [.ref (u2 1), .ref (u2 2), .int 0, .ref (u2 3), .ref (u2 4)])), ((u2 1), .inl (G.2.1 14, 402, .inl (fun _ => 0))), ((u2 2), .inl (G.2.1 14, 402, .inl (fun _ => 0))), ((u2 3), .inl (G.2.1 14, 6, .inl (fun _ => 0))), ((u2 4), .inl (G.2.1 14, 42, .inl (fun _ => 0)))] := hD
  refine lv_aload_n hx hb dX3_init_41 rfl (lv_at hl 0 rfl) ?_
  refine lv_iconst (v := 0) hx hb dX3_init_42 (by decide) ?_
  refine va_put (D := G.1) (ci := 3) (v := .int 0) (ty := .int) (C := RX3) (T := TX3) (N := 10) hx hb hts (fun _ h9 => List.mem_cons_of_mem _ (inU_wsX30 _ h9)) tyX3 tyX3_ok nmX3 hown hK.1 hP hD hS 0 rfl rfl 6 (by decide) (hts _ (List.mem_cons_of_mem _ mw201)) (fun _ h9 => h9) rfl (by decide +kernel) rfl rfl (by exact Nat.le_of_ble_eq_true rfl) dX3_init_43 (fun H locs hP hD hS => ?_)
  have hP : va_P G.1 vwCl [(q0, .inr (3, [.ref q1, .int 1, .int 1, .int 1, .int 59, .int 0, .int 0, .int 0, .null, .int 0])), (q1, .inr (2, [.ref (u2 1), .ref (u2 2), .int 0, .ref (u2 3), .ref (u2 4)])), ((u2 1), .inl (G.2.1 14, 402, .inl (fun _ => 0))), ((u2 2), .inl (G.2.1 14, 402, .inl (fun _ => 0))), ((u2 3), .inl (G.2.1 14, 6, .inl (fun _ => 0))), ((u2 4), .inl (G.2.1 14, 42, .inl (fun _ => 0)))] H := hP
  have hD : va_D A [(q0, .inr (3, [.ref q1, .int 1, .int 1, .int 1, .int 59, .int 0, .int 0, .int 0, .null, .int 0])), (q1, .inr (2, [.ref (u2 1), .ref (u2 2), .int 0, .ref (u2 3), .ref (u2 4)])), ((u2 1), .inl (G.2.1 14, 402, .inl (fun _ => 0))), ((u2 2), .inl (G.2.1 14, 402, .inl (fun _ => 0))), ((u2 3), .inl (G.2.1 14, 6, .inl (fun _ => 0))), ((u2 4), .inl (G.2.1 14, 42, .inl (fun _ => 0)))] := hD
  refine lv_aload_n hx hb dX3_init_46 rfl (lv_at hl 0 rfl) ?_
  refine lv_iconst (v := 0) hx hb dX3_init_47 (by decide) ?_
  refine va_put (D := G.1) (ci := 3) (v := .int 0) (ty := .int) (C := RX3) (T := TX3) (N := 10) hx hb hts (fun _ h9 => List.mem_cons_of_mem _ (inU_wsX30 _ h9)) tyX3 tyX3_ok nmX3 hown hK.1 hP hD hS 0 rfl rfl 7 (by decide) (hts _ (List.mem_cons_of_mem _ mw202)) (fun _ h9 => h9) rfl (by decide +kernel) rfl rfl (by exact Nat.le_of_ble_eq_true rfl) dX3_init_48 (fun H locs hP hD hS => ?_)
  have hP : va_P G.1 vwCl [(q0, .inr (3, [.ref q1, .int 1, .int 1, .int 1, .int 59, .int 0, .int 0, .int 0, .null, .int 0])), (q1, .inr (2, [.ref (u2 1), .ref (u2 2), .int 0, .ref (u2 3), .ref (u2 4)])), ((u2 1), .inl (G.2.1 14, 402, .inl (fun _ => 0))), ((u2 2), .inl (G.2.1 14, 402, .inl (fun _ => 0))), ((u2 3), .inl (G.2.1 14, 6, .inl (fun _ => 0))), ((u2 4), .inl (G.2.1 14, 42, .inl (fun _ => 0)))] H := hP
  have hD : va_D A [(q0, .inr (3, [.ref q1, .int 1, .int 1, .int 1, .int 59, .int 0, .int 0, .int 0, .null, .int 0])), (q1, .inr (2, [.ref (u2 1), .ref (u2 2), .int 0, .ref (u2 3), .ref (u2 4)])), ((u2 1), .inl (G.2.1 14, 402, .inl (fun _ => 0))), ((u2 2), .inl (G.2.1 14, 402, .inl (fun _ => 0))), ((u2 3), .inl (G.2.1 14, 6, .inl (fun _ => 0))), ((u2 4), .inl (G.2.1 14, 42, .inl (fun _ => 0)))] := hD
  refine lv_aload_n hx hb dX3_init_51 rfl (lv_at hl 0 rfl) ?_
  refine lv_bipush (v := 21) hx hb dX3_init_52 (by decide) ?_
  refine k_newaI (ty := .int) hx hb (hts _ (List.mem_cons_of_mem _ mw62)) rfl rfl hK hP hD hS hA (a0 := (21, .inl (fun _ => 0))) (fun _ => rfl) (by decide) rfl (Nat.le_of_ble_eq_true rfl) (Nat.le_of_ble_eq_true rfl) (Nat.le_of_ble_eq_true rfl) dX3_init_54 (fun q3 H hP hD hS => ?_)
  have hP : va_P G.1 vwCl [(q0, .inr (3, [.ref q1, .int 1, .int 1, .int 1, .int 59, .int 0, .int 0, .int 0, .null, .int 0])), (q1, .inr (2, [.ref (u2 1), .ref (u2 2), .int 0, .ref (u2 3), .ref (u2 4)])), ((u2 1), .inl (G.2.1 14, 402, .inl (fun _ => 0))), ((u2 2), .inl (G.2.1 14, 402, .inl (fun _ => 0))), ((u2 3), .inl (G.2.1 14, 6, .inl (fun _ => 0))), ((u2 4), .inl (G.2.1 14, 42, .inl (fun _ => 0))), (q3, .inl (G.2.1 14, 21, .inl (fun _ => 0)))] H := hP
  have hD : va_D A [(q0, .inr (3, [.ref q1, .int 1, .int 1, .int 1, .int 59, .int 0, .int 0, .int 0, .null, .int 0])), (q1, .inr (2, [.ref (u2 1), .ref (u2 2), .int 0, .ref (u2 3), .ref (u2 4)])), ((u2 1), .inl (G.2.1 14, 402, .inl (fun _ => 0))), ((u2 2), .inl (G.2.1 14, 402, .inl (fun _ => 0))), ((u2 3), .inl (G.2.1 14, 6, .inl (fun _ => 0))), ((u2 4), .inl (G.2.1 14, 42, .inl (fun _ => 0))), (q3, .inl (G.2.1 14, 21, .inl (fun _ => 0)))] := hD
  refine va_putF (D := G.1) (ci := 3) (v := .ref q3) (ty := .array (.int)) (C := RX3) (T := TX3) (N := 10) hx hb hts (fun _ h9 => List.mem_cons_of_mem _ (inU_wsX30 _ h9)) tyX3 tyX3_ok nmX3 hown hK.1 hP hD hS 0 rfl rfl 8 (by decide) (hts _ (List.mem_cons_of_mem _ mw203)) (fun _ h9 => h9) rfl hin rfl (by decide +kernel) rfl rfl (by exact Nat.le_of_ble_eq_true rfl) dX3_init_56 (fun H locs hP hD hS => ?_)
  have hP : va_P G.1 vwCl [(q0, .inr (3, [.ref q1, .int 1, .int 1, .int 1, .int 59, .int 0, .int 0, .int 0, .ref q3, .int 0])), (q1, .inr (2, [.ref (u2 1), .ref (u2 2), .int 0, .ref (u2 3), .ref (u2 4)])), ((u2 1), .inl (G.2.1 14, 402, .inl (fun _ => 0))), ((u2 2), .inl (G.2.1 14, 402, .inl (fun _ => 0))), ((u2 3), .inl (G.2.1 14, 6, .inl (fun _ => 0))), ((u2 4), .inl (G.2.1 14, 42, .inl (fun _ => 0))), (q3, .inl (G.2.1 14, 21, .inl (fun _ => 0)))] H := hP
  have hD : va_D A [(q0, .inr (3, [.ref q1, .int 1, .int 1, .int 1, .int 59, .int 0, .int 0, .int 0, .ref q3, .int 0])), (q1, .inr (2, [.ref (u2 1), .ref (u2 2), .int 0, .ref (u2 3), .ref (u2 4)])), ((u2 1), .inl (G.2.1 14, 402, .inl (fun _ => 0))), ((u2 2), .inl (G.2.1 14, 402, .inl (fun _ => 0))), ((u2 3), .inl (G.2.1 14, 6, .inl (fun _ => 0))), ((u2 4), .inl (G.2.1 14, 42, .inl (fun _ => 0))), (q3, .inl (G.2.1 14, 21, .inl (fun _ => 0)))] := hD
  refine lv_aload_n hx hb dX3_init_59 rfl (lv_at hl 0 rfl) ?_
  refine lv_iconst (v := 0) hx hb dX3_init_60 (by decide) ?_
  refine va_put (D := G.1) (ci := 3) (v := .int 0) (ty := .int) (C := RX3) (T := TX3) (N := 10) hx hb hts (fun _ h9 => List.mem_cons_of_mem _ (inU_wsX30 _ h9)) tyX3 tyX3_ok nmX3 hown hK.1 hP hD hS 0 rfl rfl 9 (by decide) (hts _ (List.mem_cons_of_mem _ mw204)) (fun _ h9 => h9) rfl (by decide +kernel) rfl rfl (by exact Nat.le_of_ble_eq_true rfl) dX3_init_61 (fun H locs hP hD hS => ?_)
  have hP : va_P G.1 vwCl [(q0, .inr (3, [.ref q1, .int 1, .int 1, .int 1, .int 59, .int 0, .int 0, .int 0, .ref q3, .int 0])), (q1, .inr (2, [.ref (u2 1), .ref (u2 2), .int 0, .ref (u2 3), .ref (u2 4)])), ((u2 1), .inl (G.2.1 14, 402, .inl (fun _ => 0))), ((u2 2), .inl (G.2.1 14, 402, .inl (fun _ => 0))), ((u2 3), .inl (G.2.1 14, 6, .inl (fun _ => 0))), ((u2 4), .inl (G.2.1 14, 42, .inl (fun _ => 0))), (q3, .inl (G.2.1 14, 21, .inl (fun _ => 0)))] H := hP
  have hD : va_D A [(q0, .inr (3, [.ref q1, .int 1, .int 1, .int 1, .int 59, .int 0, .int 0, .int 0, .ref q3, .int 0])), (q1, .inr (2, [.ref (u2 1), .ref (u2 2), .int 0, .ref (u2 3), .ref (u2 4)])), ((u2 1), .inl (G.2.1 14, 402, .inl (fun _ => 0))), ((u2 2), .inl (G.2.1 14, 402, .inl (fun _ => 0))), ((u2 3), .inl (G.2.1 14, 6, .inl (fun _ => 0))), ((u2 4), .inl (G.2.1 14, 42, .inl (fun _ => 0))), (q3, .inl (G.2.1 14, 21, .inl (fun _ => 0)))] := hD
  refine W.widen (k := 6) (n := 878) (Nat.le_of_ble_eq_true rfl) (Nat.le_of_ble_eq_true rfl) ?_
  exact W.vret hx hb hr (fun t ht hW => ⟨⟨(fun i => ([q0, q1, (u2 1), (u2 2), (u2 3), (u2 4), q3] : List Nat).getD i 0), rfl, trivial, by rw [ht]; exact hP, hD⟩, hS.F ht⟩) hS.2.2 dX3_init_64
section CROWS2
variable {p : Program} {l : Launch} {e : Env} {R : Room} {s : State} {m : MethodId} {args : Array Value} {below : List Frame} {meth : Method} {c : Code} {H : Heap} {locs : List Loc} {cells slots : Nat} {Q : State → Prop}
variable {cc : ByteArray} {pc : Nat} {ls : Array Slot} {rest : List Value} {G : wG} {A : Nat → Prop} {ws : va_W}
def ansOut (G : wG) (r : Nat → Nat) : va_E := .inl (G.2.1 18, 19, .inr (.inr (.inr (.inr (fun i => if i < 19 then some (r i) else none)))))
def ansIn (G : wG) : va_E := .inl (G.2.1 15, 24, .inr (.inl (fun _ => 0)))
theorem k_mna (hx : p.tables.exec = Jvm.exec) (hb : c.code = cc) {own : String} {index : Nat} (hown : s.vm.findClass own = some m.cls) (hclink : (Cond.classLink own index "[[J").before args s = true) (harr : (Cond.arrayClass .long).before args s = true) (hK : kK G s) (hP : va_P G.1 vwCl ws H) (hD : va_D A ws) (hS : va_S A s.heap H locs) (hA : ∀ q, s.heap.size ≤ q → A q) (hcells : cells + (1 + 19) ≤ R.cells) (hslots : slots + (19 + 19 * 24) ≤ R.slots) (hdg : decode cc pc = .ok (.multianewarray index 2, 4))
    (kk : ∀ (q : Nat) (r : Nat → Nat) (H1 : Heap), va_P G.1 vwCl (ws ++ ((q, ansOut G r) :: (List.range 19).map (fun i => (r i, ansIn G)))) H1 → va_D A (ws ++ ((q, ansOut G r) :: (List.range 19).map (fun i => (r i, ansIn G)))) → va_S A s.heap H1 locs → W p l e R s m args below meth c H1 locs (cells + 1 + 19) (slots + 19 + 19 * 24) Q (F0 m (pc + 4) ls (.ref q :: rest))) : W p l e R s m args below meth c H locs cells slots Q (F0 m pc ls (.int 24 :: .int 19 :: rest)) := by
  have hcy : s.vm.findClass (FieldType.array .long).toString = some (G.2.1 15) := (hK.1.2 2 (G.2.1 15, .long) rfl).2
  refine va_mna (X := ws) (L := []) (f := fun _ => .inr (0, [])) (ty := .long) hx hb hown hclink hK.2.2.2 harr hcy hK.1 (by simpa [va_pl] using hP) (by simpa [va_pl] using hD) hS hA (N' := 19) (K' := 24) (z := (24, .inr (.inl (fun _ => 0)))) (by decide) (by decide) rfl rfl (by decide) (by decide) (by decide) rfl rfl hcells hslots (fun c => by rw [vp_cell_l, ← arrV_new]; rfl) hdg (fun q r cA H1 hinj hnew hK1 hP1 hD1 hS1 => ?_)
  have e : cA = G.2.1 18 := Option.some.inj ((hK1.2 6 (cA, .array .long) rfl).2.symm.trans (hK.1.2 5 (G.2.1 18, .array .long) rfl).2)
  subst e
  have hl : ((ws ++ [(q, (.inl (G.2.1 18, 19, .inr (.inr (.inr (.inr (fun i => if i < 19 then some (r i) else none))))) : va_E))]) ++ va_pl ([] ++ (List.range 19).map r) (vr_up (fun _ => .inr (0, [])) ((List.range 19).map r) (.inl (G.2.1 15, 24, .inr (.inl (fun _ => 0)))))) = ws ++ ((q, ansOut G r) :: (List.range 19).map (fun i => (r i, ansIn G))) := by
    rw [List.append_assoc]
    congr 1
    show _ :: _ = _ :: _
    congr 1
    unfold va_pl
    rw [List.nil_append, List.map_map]
    apply List.map_congr_left
    intro i hi
    show (r i, vr_up _ _ _ (r i)) = _
    rw [vr_up_in (List.mem_map.mpr ⟨i, hi, rfl⟩)]
    rfl
  rw [hl] at hP1 hD1
  exact kk q r H1 hP1 hD1 hS1
theorem k_newq (hx : p.tables.exec = Jvm.exec) (hb : c.code = cc) {own : String} {index : Nat} (hown : s.vm.findClass own = some m.cls) (hclink : (Cond.classLink own index "TwoAsks$Told").before args s = true) (hK : kK G s) (hP : va_P G.1 vwCl ws H) (hD : va_D A ws) (hS : va_S A s.heap H locs) (hA : ∀ q, s.heap.size ≤ q → A q) (hcells : cells + 1 ≤ R.cells) (hslots : slots + 3 ≤ R.slots) (hdg : decode cc pc = .ok (.anewarray index, 3))
    (kk : ∀ (q : Nat) (H1 : Heap), va_P G.1 vwCl (ws ++ [(q, .inl (G.2.1 17, 3, .inr (.inr (.inr (.inr (fun _ => none))))))]) H1 → va_D A (ws ++ [(q, .inl (G.2.1 17, 3, .inr (.inr (.inr (.inr (fun _ => none))))))]) → va_S A s.heap H1 locs → W p l e R s m args below meth c H1 locs (cells + 1) (slots + 3) Q (F0 m (pc + 3) ls (.ref q :: rest))) : W p l e R s m args below meth c H locs cells slots Q (F0 m pc ls (.int 3 :: rest)) := by
  refine va_newq hx hb hown hclink hK.2.2.1 hK.1 hP hD hS hA (by decide) rfl (by decide) hcells hslots hdg (fun q cA H1 hK1 hP1 hD1 hS1 => ?_)
  have h1 := (hK1.2 6 (cA, .object "TwoAsks$Told") rfl).2
  have h2 := (hK.1.2 4 (G.2.1 17, .object "TwoAsks$Told") rfl).2
  obtain ⟨_, _, _, _, _, e1⟩ := h1
  obtain ⟨_, _, _, _, _, e2⟩ := h2
  have e : cA = G.2.1 17 := Option.some.inj (e1.symm.trans e2)
  subst e
  exact kk q H1 hP1 hD1 hS1
end CROWS2
def hText0 : hp := (fun a => if a = 0 then (fun k => if k = 7 then 3 else if k = 8 then 3 else 0) else if a = 9 then (fun k => if k = 1 then 97 else 0) else fun _ => 0, fun _ _ => 0, fun _ => 0)
abbrev ri_X7_init : Room := { frames := 2, cells := 17, slots := 10456, locals := 44 }
set_option maxRecDepth 100000 in
theorem i_X7_init (l : Launch) (G : wG) (q0 : Nat) (sz : Nat) (Q : hp → Prop) (hq : w_X7_clear 0 hText0 Q) : Met l yX7_init wUX7_init ri_X7_init (va_Pc [.ref q0] (fun U => U.heap.size = sz ∧ va_P G.1 vwCl [(q0, .inr (7, [.int 0, .null, .null, .null, .null, .null, .null, .int 0, .int 0, .int 0]))] U.heap ∧ kK G U ∧ va_D (fun _ => True) [(q0, .inr (7, [.int 0, .null, .null, .null, .null, .null, .null, .int 0, .int 0, .int 0]))])) (va_Qv (fun u : (Nat → Nat) × hp => Q u.2) (fun u t => va_P G.1 vwCl (lk ST (G.1, G.2.1, u.1) u.2) t.heap ∧ va_D (va_A [(q0, .inr (7, [.int 0, .null, .null, .null, .null, .null, .null, .int 0, .int 0, .int 0]))] sz) (lk ST (G.1, G.2.1, u.1) u.2) ∧ u.1 0 = q0) (va_A [(q0, .inr (7, [.int 0, .null, .null, .null, .null, .null, .null, .int 0, .int 0, .int 0]))] sz)) 17 10456 (va_A [(q0, .inr (7, [.int 0, .null, .null, .null, .null, .null, .null, .int 0, .int 0, .int 0]))] sz) := by
  refine Met.ofW (cc := cX7_init) (maxL := 1) (ret := none) (by decide) rfl ?_
  intro p e s m args below meth c s₁ B hml hv
  obtain ⟨rfl, hsz, hP, hK, hD0⟩ := hv
  have hx := B.exec
  have hb := B.bytes
  have hr := B.returns
  have hts := atoms_spec (ws := wUX7_init) B.pre
  have hown : s.vm.findClass RX7 = some m.cls := findClass_of_methodNamed B.named
  have hlocks := B.notSynchronized
  have hin : meth.name = "<init>" := (name_of_methodNamed B.named B.method).1
  subst hsz
  have hD := hD0.self (sz := s.heap.size)
  generalize hAe : va_A [(q0, .inr (7, [.int 0, .null, .null, .null, .null, .null, .null, .int 0, .int 0, .int 0]))] s.heap.size = A at hD ⊢
  have hA : ∀ q : Nat, s.heap.size ≤ q → A q := fun q h => by rw [← hAe]; exact Or.inr h
  have hS : va_S A s.heap s.heap [] := va_S.rf
  have hl := lv_entry ([.ref q0]) (n := 1) (Nat.le_of_ble_eq_true rfl)
  rw [lg_entry_eq]
  generalize (lg_sl ([.ref q0]) ++ List.replicate (1 - (lg_sl ([.ref q0])).length) Slot.unset).toArray = ls at hl ⊢
  have hl : lv_has ls 1 [(0, .ref q0)] := hl
  refine lv_aload_n hx hb dX7_init_0 rfl (lv_at hl 0 rfl) ?_
  refine W.objInit hx hb hown (hts _ (List.mem_cons_of_mem _ mw60)) (hts _ (List.mem_cons_of_mem _ mw11)) (hts _ (List.mem_cons_of_mem _ mw12)) rfl (by rw [hml]; exact hl.1) rfl dX7_init_1 (Nat.le_of_ble_eq_true rfl) (Nat.le_of_ble_eq_true rfl) ?_
  refine W.eq (g2 := F0 m 4 ls []) rfl ?_
  refine lv_aload_n hx hb dX7_init_4 rfl (lv_at hl 0 rfl) ?_
  refine lv_iconst (v := 0) hx hb dX7_init_5 (by decide) ?_
  refine va_put (D := G.1) (ci := 7) (v := .int 0) (ty := .int) (C := RX7) (T := TX7) (N := 10) hx hb hts (fun _ h9 => List.mem_cons_of_mem _ (inU_wsX70 _ h9)) tyX7 tyX7_ok nmX7 hown hK.1 hP hD hS 0 rfl rfl 0 (by decide) (hts _ (List.mem_cons_of_mem _ mw61)) (fun _ h9 => h9) rfl (by decide +kernel) rfl rfl (by exact Nat.le_of_ble_eq_true rfl) dX7_init_6 (fun H locs hP hD hS => ?_)
  have hP : va_P G.1 vwCl [(q0, .inr (7, [.int 0, .null, .null, .null, .null, .null, .null, .int 0, .int 0, .int 0]))] H := hP
  have hD : va_D A [(q0, .inr (7, [.int 0, .null, .null, .null, .null, .null, .null, .int 0, .int 0, .int 0]))] := hD
  refine lv_aload_n hx hb dX7_init_9 rfl (lv_at hl 0 rfl) ?_
  refine lv_bipush (v := 6) hx hb dX7_init_10 (by decide) ?_
  refine k_newaI (ty := .int) hx hb (hts _ (List.mem_cons_of_mem _ mw62)) rfl rfl hK hP hD hS hA (a0 := (6, .inl (fun _ => 0))) (fun _ => rfl) (by decide) rfl (Nat.le_of_ble_eq_true rfl) (Nat.le_of_ble_eq_true rfl) (Nat.le_of_ble_eq_true rfl) dX7_init_12 (fun q1 H hP hD hS => ?_)
  have hP : va_P G.1 vwCl [(q0, .inr (7, [.int 0, .null, .null, .null, .null, .null, .null, .int 0, .int 0, .int 0])), (q1, .inl (G.2.1 14, 6, .inl (fun _ => 0)))] H := hP
  have hD : va_D A [(q0, .inr (7, [.int 0, .null, .null, .null, .null, .null, .null, .int 0, .int 0, .int 0])), (q1, .inl (G.2.1 14, 6, .inl (fun _ => 0)))] := hD
  refine va_putF (D := G.1) (ci := 7) (v := .ref q1) (ty := .array (.int)) (C := RX7) (T := TX7) (N := 10) hx hb hts (fun _ h9 => List.mem_cons_of_mem _ (inU_wsX70 _ h9)) tyX7 tyX7_ok nmX7 hown hK.1 hP hD hS 0 rfl rfl 1 (by decide) (hts _ (List.mem_cons_of_mem _ mw63)) (fun _ h9 => h9) rfl hin rfl (by decide +kernel) rfl rfl (by exact Nat.le_of_ble_eq_true rfl) dX7_init_14 (fun H locs hP hD hS => ?_)
  have hP : va_P G.1 vwCl [(q0, .inr (7, [.int 0, .ref q1, .null, .null, .null, .null, .null, .int 0, .int 0, .int 0])), (q1, .inl (G.2.1 14, 6, .inl (fun _ => 0)))] H := hP
  have hD : va_D A [(q0, .inr (7, [.int 0, .ref q1, .null, .null, .null, .null, .null, .int 0, .int 0, .int 0])), (q1, .inl (G.2.1 14, 6, .inl (fun _ => 0)))] := hD
  refine lv_aload_n hx hb dX7_init_17 rfl (lv_at hl 0 rfl) ?_
  refine lv_bipush (v := 6) hx hb dX7_init_18 (by decide) ?_
  refine k_newaJ (ty := .long) hx hb (hts _ (List.mem_cons_of_mem _ mw64)) rfl rfl hK hP hD hS hA (a0 := (6, .inr (.inl (fun _ => 0)))) (fun _ => rfl) (by decide) rfl (Nat.le_of_ble_eq_true rfl) (Nat.le_of_ble_eq_true rfl) (Nat.le_of_ble_eq_true rfl) dX7_init_20 (fun q2 H hP hD hS => ?_)
  have hP : va_P G.1 vwCl [(q0, .inr (7, [.int 0, .ref q1, .null, .null, .null, .null, .null, .int 0, .int 0, .int 0])), (q1, .inl (G.2.1 14, 6, .inl (fun _ => 0))), (q2, .inl (G.2.1 15, 6, .inr (.inl (fun _ => 0))))] H := hP
  have hD : va_D A [(q0, .inr (7, [.int 0, .ref q1, .null, .null, .null, .null, .null, .int 0, .int 0, .int 0])), (q1, .inl (G.2.1 14, 6, .inl (fun _ => 0))), (q2, .inl (G.2.1 15, 6, .inr (.inl (fun _ => 0))))] := hD
  refine va_putF (D := G.1) (ci := 7) (v := .ref q2) (ty := .array (.long)) (C := RX7) (T := TX7) (N := 10) hx hb hts (fun _ h9 => List.mem_cons_of_mem _ (inU_wsX70 _ h9)) tyX7 tyX7_ok nmX7 hown hK.1 hP hD hS 0 rfl rfl 2 (by decide) (hts _ (List.mem_cons_of_mem _ mw65)) (fun _ h9 => h9) rfl hin rfl (by decide +kernel) rfl rfl (by exact Nat.le_of_ble_eq_true rfl) dX7_init_22 (fun H locs hP hD hS => ?_)
  have hP : va_P G.1 vwCl [(q0, .inr (7, [.int 0, .ref q1, .ref q2, .null, .null, .null, .null, .int 0, .int 0, .int 0])), (q1, .inl (G.2.1 14, 6, .inl (fun _ => 0))), (q2, .inl (G.2.1 15, 6, .inr (.inl (fun _ => 0))))] H := hP
  have hD : va_D A [(q0, .inr (7, [.int 0, .ref q1, .ref q2, .null, .null, .null, .null, .int 0, .int 0, .int 0])), (q1, .inl (G.2.1 14, 6, .inl (fun _ => 0))), (q2, .inl (G.2.1 15, 6, .inr (.inl (fun _ => 0))))] := hD
  refine lv_aload_n hx hb dX7_init_25 rfl (lv_at hl 0 rfl) ?_
  refine lv_bipush (v := 36) hx hb dX7_init_26 (by decide) ?_
  refine k_newaI (ty := .int) hx hb (hts _ (List.mem_cons_of_mem _ mw62)) rfl rfl hK hP hD hS hA (a0 := (36, .inl (fun _ => 0))) (fun _ => rfl) (by decide) rfl (Nat.le_of_ble_eq_true rfl) (Nat.le_of_ble_eq_true rfl) (Nat.le_of_ble_eq_true rfl) dX7_init_28 (fun q3 H hP hD hS => ?_)
  have hP : va_P G.1 vwCl [(q0, .inr (7, [.int 0, .ref q1, .ref q2, .null, .null, .null, .null, .int 0, .int 0, .int 0])), (q1, .inl (G.2.1 14, 6, .inl (fun _ => 0))), (q2, .inl (G.2.1 15, 6, .inr (.inl (fun _ => 0)))), (q3, .inl (G.2.1 14, 36, .inl (fun _ => 0)))] H := hP
  have hD : va_D A [(q0, .inr (7, [.int 0, .ref q1, .ref q2, .null, .null, .null, .null, .int 0, .int 0, .int 0])), (q1, .inl (G.2.1 14, 6, .inl (fun _ => 0))), (q2, .inl (G.2.1 15, 6, .inr (.inl (fun _ => 0)))), (q3, .inl (G.2.1 14, 36, .inl (fun _ => 0)))] := hD
  refine va_putF (D := G.1) (ci := 7) (v := .ref q3) (ty := .array (.int)) (C := RX7) (T := TX7) (N := 10) hx hb hts (fun _ h9 => List.mem_cons_of_mem _ (inU_wsX70 _ h9)) tyX7 tyX7_ok nmX7 hown hK.1 hP hD hS 0 rfl rfl 3 (by decide) (hts _ (List.mem_cons_of_mem _ mw66)) (fun _ h9 => h9) rfl hin rfl (by decide +kernel) rfl rfl (by exact Nat.le_of_ble_eq_true rfl) dX7_init_30 (fun H locs hP hD hS => ?_)
  have hP : va_P G.1 vwCl [(q0, .inr (7, [.int 0, .ref q1, .ref q2, .ref q3, .null, .null, .null, .int 0, .int 0, .int 0])), (q1, .inl (G.2.1 14, 6, .inl (fun _ => 0))), (q2, .inl (G.2.1 15, 6, .inr (.inl (fun _ => 0)))), (q3, .inl (G.2.1 14, 36, .inl (fun _ => 0)))] H := hP
  have hD : va_D A [(q0, .inr (7, [.int 0, .ref q1, .ref q2, .ref q3, .null, .null, .null, .int 0, .int 0, .int 0])), (q1, .inl (G.2.1 14, 6, .inl (fun _ => 0))), (q2, .inl (G.2.1 15, 6, .inr (.inl (fun _ => 0)))), (q3, .inl (G.2.1 14, 36, .inl (fun _ => 0)))] := hD
  refine lv_aload_n hx hb dX7_init_33 rfl (lv_at hl 0 rfl) ?_
  refine va_new (ci := 2) (fs := [.null, .null, .int 0, .null, .null]) (C := RX2) (T := TX2) (N := 5) hx hb hts (fun _ h9 => List.mem_cons_of_mem _ (inU_wsX20 _ h9)) tyX2 tyX2_ok hown (hts _ (List.mem_cons_of_mem _ mw67)) (hts _ (List.mem_cons_of_mem _ mw68)) (hts _ (List.mem_cons_of_mem _ mw69)) hK.1 hP hD hS hA rfl (by decide) (Nat.le_of_ble_eq_true rfl) (Nat.le_of_ble_eq_true rfl) dX7_init_34 (fun q4 H hP hD hS => ?_)
  have hP : va_P G.1 vwCl [(q0, .inr (7, [.int 0, .ref q1, .ref q2, .ref q3, .null, .null, .null, .int 0, .int 0, .int 0])), (q1, .inl (G.2.1 14, 6, .inl (fun _ => 0))), (q2, .inl (G.2.1 15, 6, .inr (.inl (fun _ => 0)))), (q3, .inl (G.2.1 14, 36, .inl (fun _ => 0))), (q4, .inr (2, [.null, .null, .int 0, .null, .null]))] H := hP
  have hD : va_D A [(q0, .inr (7, [.int 0, .ref q1, .ref q2, .ref q3, .null, .null, .null, .int 0, .int 0, .int 0])), (q1, .inl (G.2.1 14, 6, .inl (fun _ => 0))), (q2, .inl (G.2.1 15, 6, .inr (.inl (fun _ => 0)))), (q3, .inl (G.2.1 14, 36, .inl (fun _ => 0))), (q4, .inr (2, [.null, .null, .int 0, .null, .null]))] := hD
  refine lv_dup hx hb dX7_init_37 rfl ?_
  have hPc := hP.sub (ws' := [(q4, .inr (2, [.null, .null, .int 0, .null, .null]))]) [4] rfl
  have hDc := hD.sub (ws' := [(q4, .inr (2, [.null, .null, .int 0, .null, .null]))]) [4] (by decide) rfl
  have hFc := va_free (wc := [(q4, .inr (2, [.null, .null, .int 0, .null, .null]))]) hD hS hA [4] rfl
  refine va_callv (va_runIN (As := []) (rest := [.ref q4, .ref q0]) ⟨hx, hb, hml, hown, hts⟩ (i_X2_init l G q4 H.size) ⟨va_cnB 0 hts (gU_C mw83) rfl rfl rfl (hK.2.1 _ (List.mem_of_getElem? (i := 2) rfl)) (hts _ (List.mem_cons_of_mem _ mw69)) (by decide +kernel) ⟨Nat.le_of_ble_eq_true rfl, Nat.le_of_ble_eq_true rfl⟩, rfl, (hts _ (List.mem_cons_of_mem _ mw82))⟩ ⟨i_blind, fun U hU hWm => ⟨rfl, by rw [hU], by rw [hU]; exact hPc, kK_moved hWm hK, hDc.weaken (fun _ _ _ _ => trivial)⟩⟩ rfl rfl hl.1 rfl (lv_room (Nat.le_of_ble_eq_true rfl)) dX7_init_38 ⟨Nat.le_of_ble_eq_true rfl, Nat.le_of_ble_eq_true rfl⟩) hS (fun q _ h => hFc q h) hFc (fun u5 t H1 locs ht hvm hw hB hz1 hk1 hS => ?_)
  obtain ⟨hP1, hD1⟩ := hB
  rw [ht] at hP1
  have hP1 : va_P G.1 vwCl [(q4, .inr (2, [.ref (u5 1), .ref (u5 2), .int 0, .ref (u5 3), .ref (u5 4)])), ((u5 1), .inl (G.2.1 14, 402, .inl (fun _ => 0))), ((u5 2), .inl (G.2.1 14, 402, .inl (fun _ => 0))), ((u5 3), .inl (G.2.1 14, 6, .inl (fun _ => 0))), ((u5 4), .inl (G.2.1 14, 42, .inl (fun _ => 0)))] H1 := hP1
  have hD1 : va_D _ [(q4, .inr (2, [.ref (u5 1), .ref (u5 2), .int 0, .ref (u5 3), .ref (u5 4)])), ((u5 1), .inl (G.2.1 14, 402, .inl (fun _ => 0))), ((u5 2), .inl (G.2.1 14, 402, .inl (fun _ => 0))), ((u5 3), .inl (G.2.1 14, 6, .inl (fun _ => 0))), ((u5 4), .inl (G.2.1 14, 42, .inl (fun _ => 0)))] := hD1
  obtain ⟨hP, hD⟩ := va_join (wr := [(q0, .inr (7, [.int 0, .ref q1, .ref q2, .ref q3, .null, .null, .null, .int 0, .int 0, .int 0])), (q1, .inl (G.2.1 14, 6, .inl (fun _ => 0))), (q2, .inl (G.2.1 15, 6, .inr (.inl (fun _ => 0)))), (q3, .inl (G.2.1 14, 36, .inl (fun _ => 0)))]) (w1 := [(q4, .inr (2, [.ref (u5 1), .ref (u5 2), .int 0, .ref (u5 3), .ref (u5 4)])), ((u5 1), .inl (G.2.1 14, 402, .inl (fun _ => 0))), ((u5 2), .inl (G.2.1 14, 402, .inl (fun _ => 0))), ((u5 3), .inl (G.2.1 14, 6, .inl (fun _ => 0))), ((u5 4), .inl (G.2.1 14, 42, .inl (fun _ => 0)))]) hP hD [4] [0, 1, 2, 3] rfl rfl (by decide) (by decide) hk1 hFc hP1 hD1
  generalize H1 = H at hP hS ⊢
  have hP : va_P G.1 vwCl [(q0, .inr (7, [.int 0, .ref q1, .ref q2, .ref q3, .null, .null, .null, .int 0, .int 0, .int 0])), (q1, .inl (G.2.1 14, 6, .inl (fun _ => 0))), (q2, .inl (G.2.1 15, 6, .inr (.inl (fun _ => 0)))), (q3, .inl (G.2.1 14, 36, .inl (fun _ => 0))), (q4, .inr (2, [.ref (u5 1), .ref (u5 2), .int 0, .ref (u5 3), .ref (u5 4)])), ((u5 1), .inl (G.2.1 14, 402, .inl (fun _ => 0))), ((u5 2), .inl (G.2.1 14, 402, .inl (fun _ => 0))), ((u5 3), .inl (G.2.1 14, 6, .inl (fun _ => 0))), ((u5 4), .inl (G.2.1 14, 42, .inl (fun _ => 0)))] H := hP
  have hD : va_D A [(q0, .inr (7, [.int 0, .ref q1, .ref q2, .ref q3, .null, .null, .null, .int 0, .int 0, .int 0])), (q1, .inl (G.2.1 14, 6, .inl (fun _ => 0))), (q2, .inl (G.2.1 15, 6, .inr (.inl (fun _ => 0)))), (q3, .inl (G.2.1 14, 36, .inl (fun _ => 0))), (q4, .inr (2, [.ref (u5 1), .ref (u5 2), .int 0, .ref (u5 3), .ref (u5 4)])), ((u5 1), .inl (G.2.1 14, 402, .inl (fun _ => 0))), ((u5 2), .inl (G.2.1 14, 402, .inl (fun _ => 0))), ((u5 3), .inl (G.2.1 14, 6, .inl (fun _ => 0))), ((u5 4), .inl (G.2.1 14, 42, .inl (fun _ => 0)))] := hD
  refine va_putF (D := G.1) (ci := 7) (v := .ref q4) (ty := .object "TwoAsks$Law") (C := RX7) (T := TX7) (N := 10) hx hb hts (fun _ h9 => List.mem_cons_of_mem _ (inU_wsX70 _ h9)) tyX7 tyX7_ok nmX7 hown hK.1 hP hD hS 0 rfl rfl 4 (by decide) (hts _ (List.mem_cons_of_mem _ mw70)) (fun _ h9 => h9) rfl hin rfl (by decide +kernel) rfl rfl (by exact Nat.le_of_ble_eq_true rfl) dX7_init_41 (fun H locs hP hD hS => ?_)
  have hP : va_P G.1 vwCl [(q0, .inr (7, [.int 0, .ref q1, .ref q2, .ref q3, .ref q4, .null, .null, .int 0, .int 0, .int 0])), (q1, .inl (G.2.1 14, 6, .inl (fun _ => 0))), (q2, .inl (G.2.1 15, 6, .inr (.inl (fun _ => 0)))), (q3, .inl (G.2.1 14, 36, .inl (fun _ => 0))), (q4, .inr (2, [.ref (u5 1), .ref (u5 2), .int 0, .ref (u5 3), .ref (u5 4)])), ((u5 1), .inl (G.2.1 14, 402, .inl (fun _ => 0))), ((u5 2), .inl (G.2.1 14, 402, .inl (fun _ => 0))), ((u5 3), .inl (G.2.1 14, 6, .inl (fun _ => 0))), ((u5 4), .inl (G.2.1 14, 42, .inl (fun _ => 0)))] H := hP
  have hD : va_D A [(q0, .inr (7, [.int 0, .ref q1, .ref q2, .ref q3, .ref q4, .null, .null, .int 0, .int 0, .int 0])), (q1, .inl (G.2.1 14, 6, .inl (fun _ => 0))), (q2, .inl (G.2.1 15, 6, .inr (.inl (fun _ => 0)))), (q3, .inl (G.2.1 14, 36, .inl (fun _ => 0))), (q4, .inr (2, [.ref (u5 1), .ref (u5 2), .int 0, .ref (u5 3), .ref (u5 4)])), ((u5 1), .inl (G.2.1 14, 402, .inl (fun _ => 0))), ((u5 2), .inl (G.2.1 14, 402, .inl (fun _ => 0))), ((u5 3), .inl (G.2.1 14, 6, .inl (fun _ => 0))), ((u5 4), .inl (G.2.1 14, 42, .inl (fun _ => 0)))] := hD
  refine lv_aload_n hx hb dX7_init_44 rfl (lv_at hl 0 rfl) ?_
  refine va_new (ci := 6) (fs := [.int 0, .int 0, .null, .null, .null, .null, .null]) (C := RX6) (T := TX6) (N := 7) hx hb hts (fun _ h9 => List.mem_cons_of_mem _ (inU_wsX60 _ h9)) tyX6 tyX6_ok hown (hts _ (List.mem_cons_of_mem _ mw71)) (hts _ (List.mem_cons_of_mem _ mw72)) (hts _ (List.mem_cons_of_mem _ mw73)) hK.1 hP hD hS hA rfl (by decide) (Nat.le_of_ble_eq_true rfl) (Nat.le_of_ble_eq_true rfl) dX7_init_45 (fun q6 H hP hD hS => ?_)
  have hP : va_P G.1 vwCl [(q0, .inr (7, [.int 0, .ref q1, .ref q2, .ref q3, .ref q4, .null, .null, .int 0, .int 0, .int 0])), (q1, .inl (G.2.1 14, 6, .inl (fun _ => 0))), (q2, .inl (G.2.1 15, 6, .inr (.inl (fun _ => 0)))), (q3, .inl (G.2.1 14, 36, .inl (fun _ => 0))), (q4, .inr (2, [.ref (u5 1), .ref (u5 2), .int 0, .ref (u5 3), .ref (u5 4)])), ((u5 1), .inl (G.2.1 14, 402, .inl (fun _ => 0))), ((u5 2), .inl (G.2.1 14, 402, .inl (fun _ => 0))), ((u5 3), .inl (G.2.1 14, 6, .inl (fun _ => 0))), ((u5 4), .inl (G.2.1 14, 42, .inl (fun _ => 0))), (q6, .inr (6, [.int 0, .int 0, .null, .null, .null, .null, .null]))] H := hP
  have hD : va_D A [(q0, .inr (7, [.int 0, .ref q1, .ref q2, .ref q3, .ref q4, .null, .null, .int 0, .int 0, .int 0])), (q1, .inl (G.2.1 14, 6, .inl (fun _ => 0))), (q2, .inl (G.2.1 15, 6, .inr (.inl (fun _ => 0)))), (q3, .inl (G.2.1 14, 36, .inl (fun _ => 0))), (q4, .inr (2, [.ref (u5 1), .ref (u5 2), .int 0, .ref (u5 3), .ref (u5 4)])), ((u5 1), .inl (G.2.1 14, 402, .inl (fun _ => 0))), ((u5 2), .inl (G.2.1 14, 402, .inl (fun _ => 0))), ((u5 3), .inl (G.2.1 14, 6, .inl (fun _ => 0))), ((u5 4), .inl (G.2.1 14, 42, .inl (fun _ => 0))), (q6, .inr (6, [.int 0, .int 0, .null, .null, .null, .null, .null]))] := hD
  refine lv_dup hx hb dX7_init_48 rfl ?_
  have hPc := hP.sub (ws' := [(q6, .inr (6, [.int 0, .int 0, .null, .null, .null, .null, .null]))]) [9] rfl
  have hDc := hD.sub (ws' := [(q6, .inr (6, [.int 0, .int 0, .null, .null, .null, .null, .null]))]) [9] (by decide) rfl
  have hFc := va_free (wc := [(q6, .inr (6, [.int 0, .int 0, .null, .null, .null, .null, .null]))]) hD hS hA [9] rfl
  refine va_callv (va_runIN (As := []) (rest := [.ref q6, .ref q0]) ⟨hx, hb, hml, hown, hts⟩ (i_X6_init l G q6 H.size) ⟨va_cnB 0 hts (gU_C mw91) rfl rfl rfl (hK.2.1 _ (List.mem_of_getElem? (i := 3) rfl)) (hts _ (List.mem_cons_of_mem _ mw73)) (by decide +kernel) ⟨Nat.le_of_ble_eq_true rfl, Nat.le_of_ble_eq_true rfl⟩, rfl, (hts _ (List.mem_cons_of_mem _ mw90))⟩ ⟨i_blind, fun U hU hWm => ⟨rfl, by rw [hU], by rw [hU]; exact hPc, kK_moved hWm hK, hDc.weaken (fun _ _ _ _ => trivial)⟩⟩ rfl rfl hl.1 rfl (lv_room (Nat.le_of_ble_eq_true rfl)) dX7_init_49 ⟨Nat.le_of_ble_eq_true rfl, Nat.le_of_ble_eq_true rfl⟩) hS (fun q _ h => hFc q h) hFc (fun u7 t H1 locs ht hvm hw hB hz1 hk1 hS => ?_)
  obtain ⟨hP1, hD1⟩ := hB
  rw [ht] at hP1
  have hP1 : va_P G.1 vwCl [(q6, .inr (6, [.int 0, .int 97, .ref (u7 1), .ref (u7 2), .ref (u7 3), .ref (u7 4), .ref (u7 5)])), ((u7 1), .inl (G.2.1 14, 8, .inl (fun _ => 0))), ((u7 2), .inl (G.2.1 14, 8, .inl (fun _ => 0))), ((u7 3), .inl (G.2.1 14, 8, .inl (fun _ => 0))), ((u7 4), .inl (G.2.1 14, 6, .inl (fun _ => 0))), ((u7 5), .inl (G.2.1 14, 7, .inl (fun _ => 0)))] H1 := hP1
  have hD1 : va_D _ [(q6, .inr (6, [.int 0, .int 97, .ref (u7 1), .ref (u7 2), .ref (u7 3), .ref (u7 4), .ref (u7 5)])), ((u7 1), .inl (G.2.1 14, 8, .inl (fun _ => 0))), ((u7 2), .inl (G.2.1 14, 8, .inl (fun _ => 0))), ((u7 3), .inl (G.2.1 14, 8, .inl (fun _ => 0))), ((u7 4), .inl (G.2.1 14, 6, .inl (fun _ => 0))), ((u7 5), .inl (G.2.1 14, 7, .inl (fun _ => 0)))] := hD1
  obtain ⟨hP, hD⟩ := va_join (wr := [(q0, .inr (7, [.int 0, .ref q1, .ref q2, .ref q3, .ref q4, .null, .null, .int 0, .int 0, .int 0])), (q1, .inl (G.2.1 14, 6, .inl (fun _ => 0))), (q2, .inl (G.2.1 15, 6, .inr (.inl (fun _ => 0)))), (q3, .inl (G.2.1 14, 36, .inl (fun _ => 0))), (q4, .inr (2, [.ref (u5 1), .ref (u5 2), .int 0, .ref (u5 3), .ref (u5 4)])), ((u5 1), .inl (G.2.1 14, 402, .inl (fun _ => 0))), ((u5 2), .inl (G.2.1 14, 402, .inl (fun _ => 0))), ((u5 3), .inl (G.2.1 14, 6, .inl (fun _ => 0))), ((u5 4), .inl (G.2.1 14, 42, .inl (fun _ => 0)))]) (w1 := [(q6, .inr (6, [.int 0, .int 97, .ref (u7 1), .ref (u7 2), .ref (u7 3), .ref (u7 4), .ref (u7 5)])), ((u7 1), .inl (G.2.1 14, 8, .inl (fun _ => 0))), ((u7 2), .inl (G.2.1 14, 8, .inl (fun _ => 0))), ((u7 3), .inl (G.2.1 14, 8, .inl (fun _ => 0))), ((u7 4), .inl (G.2.1 14, 6, .inl (fun _ => 0))), ((u7 5), .inl (G.2.1 14, 7, .inl (fun _ => 0)))]) hP hD [9] [0, 1, 2, 3, 4, 5, 6, 7, 8] rfl rfl (by decide) (by decide) hk1 hFc hP1 hD1
  generalize H1 = H at hP hS ⊢
  have hP : va_P G.1 vwCl [(q0, .inr (7, [.int 0, .ref q1, .ref q2, .ref q3, .ref q4, .null, .null, .int 0, .int 0, .int 0])), (q1, .inl (G.2.1 14, 6, .inl (fun _ => 0))), (q2, .inl (G.2.1 15, 6, .inr (.inl (fun _ => 0)))), (q3, .inl (G.2.1 14, 36, .inl (fun _ => 0))), (q4, .inr (2, [.ref (u5 1), .ref (u5 2), .int 0, .ref (u5 3), .ref (u5 4)])), ((u5 1), .inl (G.2.1 14, 402, .inl (fun _ => 0))), ((u5 2), .inl (G.2.1 14, 402, .inl (fun _ => 0))), ((u5 3), .inl (G.2.1 14, 6, .inl (fun _ => 0))), ((u5 4), .inl (G.2.1 14, 42, .inl (fun _ => 0))), (q6, .inr (6, [.int 0, .int 97, .ref (u7 1), .ref (u7 2), .ref (u7 3), .ref (u7 4), .ref (u7 5)])), ((u7 1), .inl (G.2.1 14, 8, .inl (fun _ => 0))), ((u7 2), .inl (G.2.1 14, 8, .inl (fun _ => 0))), ((u7 3), .inl (G.2.1 14, 8, .inl (fun _ => 0))), ((u7 4), .inl (G.2.1 14, 6, .inl (fun _ => 0))), ((u7 5), .inl (G.2.1 14, 7, .inl (fun _ => 0)))] H := hP
  have hD : va_D A [(q0, .inr (7, [.int 0, .ref q1, .ref q2, .ref q3, .ref q4, .null, .null, .int 0, .int 0, .int 0])), (q1, .inl (G.2.1 14, 6, .inl (fun _ => 0))), (q2, .inl (G.2.1 15, 6, .inr (.inl (fun _ => 0)))), (q3, .inl (G.2.1 14, 36, .inl (fun _ => 0))), (q4, .inr (2, [.ref (u5 1), .ref (u5 2), .int 0, .ref (u5 3), .ref (u5 4)])), ((u5 1), .inl (G.2.1 14, 402, .inl (fun _ => 0))), ((u5 2), .inl (G.2.1 14, 402, .inl (fun _ => 0))), ((u5 3), .inl (G.2.1 14, 6, .inl (fun _ => 0))), ((u5 4), .inl (G.2.1 14, 42, .inl (fun _ => 0))), (q6, .inr (6, [.int 0, .int 97, .ref (u7 1), .ref (u7 2), .ref (u7 3), .ref (u7 4), .ref (u7 5)])), ((u7 1), .inl (G.2.1 14, 8, .inl (fun _ => 0))), ((u7 2), .inl (G.2.1 14, 8, .inl (fun _ => 0))), ((u7 3), .inl (G.2.1 14, 8, .inl (fun _ => 0))), ((u7 4), .inl (G.2.1 14, 6, .inl (fun _ => 0))), ((u7 5), .inl (G.2.1 14, 7, .inl (fun _ => 0)))] := hD
  refine va_putF (D := G.1) (ci := 7) (v := .ref q6) (ty := .object "TwoAsks$Shares") (C := RX7) (T := TX7) (N := 10) hx hb hts (fun _ h9 => List.mem_cons_of_mem _ (inU_wsX70 _ h9)) tyX7 tyX7_ok nmX7 hown hK.1 hP hD hS 0 rfl rfl 5 (by decide) (hts _ (List.mem_cons_of_mem _ mw74)) (fun _ h9 => h9) rfl hin rfl (by decide +kernel) rfl rfl (by exact Nat.le_of_ble_eq_true rfl) dX7_init_52 (fun H locs hP hD hS => ?_)
  have hP : va_P G.1 vwCl [(q0, .inr (7, [.int 0, .ref q1, .ref q2, .ref q3, .ref q4, .ref q6, .null, .int 0, .int 0, .int 0])), (q1, .inl (G.2.1 14, 6, .inl (fun _ => 0))), (q2, .inl (G.2.1 15, 6, .inr (.inl (fun _ => 0)))), (q3, .inl (G.2.1 14, 36, .inl (fun _ => 0))), (q4, .inr (2, [.ref (u5 1), .ref (u5 2), .int 0, .ref (u5 3), .ref (u5 4)])), ((u5 1), .inl (G.2.1 14, 402, .inl (fun _ => 0))), ((u5 2), .inl (G.2.1 14, 402, .inl (fun _ => 0))), ((u5 3), .inl (G.2.1 14, 6, .inl (fun _ => 0))), ((u5 4), .inl (G.2.1 14, 42, .inl (fun _ => 0))), (q6, .inr (6, [.int 0, .int 97, .ref (u7 1), .ref (u7 2), .ref (u7 3), .ref (u7 4), .ref (u7 5)])), ((u7 1), .inl (G.2.1 14, 8, .inl (fun _ => 0))), ((u7 2), .inl (G.2.1 14, 8, .inl (fun _ => 0))), ((u7 3), .inl (G.2.1 14, 8, .inl (fun _ => 0))), ((u7 4), .inl (G.2.1 14, 6, .inl (fun _ => 0))), ((u7 5), .inl (G.2.1 14, 7, .inl (fun _ => 0)))] H := hP
  have hD : va_D A [(q0, .inr (7, [.int 0, .ref q1, .ref q2, .ref q3, .ref q4, .ref q6, .null, .int 0, .int 0, .int 0])), (q1, .inl (G.2.1 14, 6, .inl (fun _ => 0))), (q2, .inl (G.2.1 15, 6, .inr (.inl (fun _ => 0)))), (q3, .inl (G.2.1 14, 36, .inl (fun _ => 0))), (q4, .inr (2, [.ref (u5 1), .ref (u5 2), .int 0, .ref (u5 3), .ref (u5 4)])), ((u5 1), .inl (G.2.1 14, 402, .inl (fun _ => 0))), ((u5 2), .inl (G.2.1 14, 402, .inl (fun _ => 0))), ((u5 3), .inl (G.2.1 14, 6, .inl (fun _ => 0))), ((u5 4), .inl (G.2.1 14, 42, .inl (fun _ => 0))), (q6, .inr (6, [.int 0, .int 97, .ref (u7 1), .ref (u7 2), .ref (u7 3), .ref (u7 4), .ref (u7 5)])), ((u7 1), .inl (G.2.1 14, 8, .inl (fun _ => 0))), ((u7 2), .inl (G.2.1 14, 8, .inl (fun _ => 0))), ((u7 3), .inl (G.2.1 14, 8, .inl (fun _ => 0))), ((u7 4), .inl (G.2.1 14, 6, .inl (fun _ => 0))), ((u7 5), .inl (G.2.1 14, 7, .inl (fun _ => 0)))] := hD
  refine lv_aload_n hx hb dX7_init_55 rfl (lv_at hl 0 rfl) ?_
  refine va_new (ci := 0) (fs := [.int 0, .null, .null]) (C := RX0) (T := TX0) (N := 3) hx hb hts (fun _ h9 => List.mem_cons_of_mem _ (inU_wsX00 _ h9)) tyX0 tyX0_ok hown (hts _ (List.mem_cons_of_mem _ mw75)) (hts _ (List.mem_cons_of_mem _ mw76)) (hts _ (List.mem_cons_of_mem _ mw77)) hK.1 hP hD hS hA rfl (by decide) (Nat.le_of_ble_eq_true rfl) (Nat.le_of_ble_eq_true rfl) dX7_init_56 (fun q8 H hP hD hS => ?_)
  have hP : va_P G.1 vwCl [(q0, .inr (7, [.int 0, .ref q1, .ref q2, .ref q3, .ref q4, .ref q6, .null, .int 0, .int 0, .int 0])), (q1, .inl (G.2.1 14, 6, .inl (fun _ => 0))), (q2, .inl (G.2.1 15, 6, .inr (.inl (fun _ => 0)))), (q3, .inl (G.2.1 14, 36, .inl (fun _ => 0))), (q4, .inr (2, [.ref (u5 1), .ref (u5 2), .int 0, .ref (u5 3), .ref (u5 4)])), ((u5 1), .inl (G.2.1 14, 402, .inl (fun _ => 0))), ((u5 2), .inl (G.2.1 14, 402, .inl (fun _ => 0))), ((u5 3), .inl (G.2.1 14, 6, .inl (fun _ => 0))), ((u5 4), .inl (G.2.1 14, 42, .inl (fun _ => 0))), (q6, .inr (6, [.int 0, .int 97, .ref (u7 1), .ref (u7 2), .ref (u7 3), .ref (u7 4), .ref (u7 5)])), ((u7 1), .inl (G.2.1 14, 8, .inl (fun _ => 0))), ((u7 2), .inl (G.2.1 14, 8, .inl (fun _ => 0))), ((u7 3), .inl (G.2.1 14, 8, .inl (fun _ => 0))), ((u7 4), .inl (G.2.1 14, 6, .inl (fun _ => 0))), ((u7 5), .inl (G.2.1 14, 7, .inl (fun _ => 0))), (q8, .inr (0, [.int 0, .null, .null]))] H := hP
  have hD : va_D A [(q0, .inr (7, [.int 0, .ref q1, .ref q2, .ref q3, .ref q4, .ref q6, .null, .int 0, .int 0, .int 0])), (q1, .inl (G.2.1 14, 6, .inl (fun _ => 0))), (q2, .inl (G.2.1 15, 6, .inr (.inl (fun _ => 0)))), (q3, .inl (G.2.1 14, 36, .inl (fun _ => 0))), (q4, .inr (2, [.ref (u5 1), .ref (u5 2), .int 0, .ref (u5 3), .ref (u5 4)])), ((u5 1), .inl (G.2.1 14, 402, .inl (fun _ => 0))), ((u5 2), .inl (G.2.1 14, 402, .inl (fun _ => 0))), ((u5 3), .inl (G.2.1 14, 6, .inl (fun _ => 0))), ((u5 4), .inl (G.2.1 14, 42, .inl (fun _ => 0))), (q6, .inr (6, [.int 0, .int 97, .ref (u7 1), .ref (u7 2), .ref (u7 3), .ref (u7 4), .ref (u7 5)])), ((u7 1), .inl (G.2.1 14, 8, .inl (fun _ => 0))), ((u7 2), .inl (G.2.1 14, 8, .inl (fun _ => 0))), ((u7 3), .inl (G.2.1 14, 8, .inl (fun _ => 0))), ((u7 4), .inl (G.2.1 14, 6, .inl (fun _ => 0))), ((u7 5), .inl (G.2.1 14, 7, .inl (fun _ => 0))), (q8, .inr (0, [.int 0, .null, .null]))] := hD
  refine lv_dup hx hb dX7_init_59 rfl ?_
  have hPc := hP.sub (ws' := [(q8, .inr (0, [.int 0, .null, .null]))]) [15] rfl
  have hDc := hD.sub (ws' := [(q8, .inr (0, [.int 0, .null, .null]))]) [15] (by decide) rfl
  have hFc := va_free (wc := [(q8, .inr (0, [.int 0, .null, .null]))]) hD hS hA [15] rfl
  refine va_callv (va_runIN (As := []) (rest := [.ref q8, .ref q0]) ⟨hx, hb, hml, hown, hts⟩ (i_X0_init l G q8 H.size) ⟨va_cnB 0 hts (gU_C mw101) rfl rfl rfl (hK.2.1 _ (List.mem_of_getElem? (i := 4) rfl)) (hts _ (List.mem_cons_of_mem _ mw77)) (by decide +kernel) ⟨Nat.le_of_ble_eq_true rfl, Nat.le_of_ble_eq_true rfl⟩, rfl, (hts _ (List.mem_cons_of_mem _ mw100))⟩ ⟨i_blind, fun U hU hWm => ⟨rfl, by rw [hU], by rw [hU]; exact hPc, kK_moved hWm hK, hDc.weaken (fun _ _ _ _ => trivial)⟩⟩ rfl rfl hl.1 rfl (lv_room (Nat.le_of_ble_eq_true rfl)) dX7_init_60 ⟨Nat.le_of_ble_eq_true rfl, Nat.le_of_ble_eq_true rfl⟩) hS (fun q _ h => hFc q h) hFc (fun u9 t H1 locs ht hvm hw hB hz1 hk1 hS => ?_)
  obtain ⟨hP1, hD1⟩ := hB
  rw [ht] at hP1
  have hP1 : va_P G.1 vwCl [(q8, .inr (0, [.int 0, .ref (u9 1), .ref (u9 2)])), ((u9 1), .inl (G.2.1 14, 512, .inl (fun _ => 0))), ((u9 2), .inl (G.2.1 13, 8992, .inl (fun _ => 0)))] H1 := hP1
  have hD1 : va_D _ [(q8, .inr (0, [.int 0, .ref (u9 1), .ref (u9 2)])), ((u9 1), .inl (G.2.1 14, 512, .inl (fun _ => 0))), ((u9 2), .inl (G.2.1 13, 8992, .inl (fun _ => 0)))] := hD1
  obtain ⟨hP, hD⟩ := va_join (wr := [(q0, .inr (7, [.int 0, .ref q1, .ref q2, .ref q3, .ref q4, .ref q6, .null, .int 0, .int 0, .int 0])), (q1, .inl (G.2.1 14, 6, .inl (fun _ => 0))), (q2, .inl (G.2.1 15, 6, .inr (.inl (fun _ => 0)))), (q3, .inl (G.2.1 14, 36, .inl (fun _ => 0))), (q4, .inr (2, [.ref (u5 1), .ref (u5 2), .int 0, .ref (u5 3), .ref (u5 4)])), ((u5 1), .inl (G.2.1 14, 402, .inl (fun _ => 0))), ((u5 2), .inl (G.2.1 14, 402, .inl (fun _ => 0))), ((u5 3), .inl (G.2.1 14, 6, .inl (fun _ => 0))), ((u5 4), .inl (G.2.1 14, 42, .inl (fun _ => 0))), (q6, .inr (6, [.int 0, .int 97, .ref (u7 1), .ref (u7 2), .ref (u7 3), .ref (u7 4), .ref (u7 5)])), ((u7 1), .inl (G.2.1 14, 8, .inl (fun _ => 0))), ((u7 2), .inl (G.2.1 14, 8, .inl (fun _ => 0))), ((u7 3), .inl (G.2.1 14, 8, .inl (fun _ => 0))), ((u7 4), .inl (G.2.1 14, 6, .inl (fun _ => 0))), ((u7 5), .inl (G.2.1 14, 7, .inl (fun _ => 0)))]) (w1 := [(q8, .inr (0, [.int 0, .ref (u9 1), .ref (u9 2)])), ((u9 1), .inl (G.2.1 14, 512, .inl (fun _ => 0))), ((u9 2), .inl (G.2.1 13, 8992, .inl (fun _ => 0)))]) hP hD [15] [0, 1, 2, 3, 4, 5, 6, 7, 8, 9, 10, 11, 12, 13, 14] rfl rfl (by decide) (by decide) hk1 hFc hP1 hD1
  generalize H1 = H at hP hS ⊢
  have hP : va_P G.1 vwCl [(q0, .inr (7, [.int 0, .ref q1, .ref q2, .ref q3, .ref q4, .ref q6, .null, .int 0, .int 0, .int 0])), (q1, .inl (G.2.1 14, 6, .inl (fun _ => 0))), (q2, .inl (G.2.1 15, 6, .inr (.inl (fun _ => 0)))), (q3, .inl (G.2.1 14, 36, .inl (fun _ => 0))), (q4, .inr (2, [.ref (u5 1), .ref (u5 2), .int 0, .ref (u5 3), .ref (u5 4)])), ((u5 1), .inl (G.2.1 14, 402, .inl (fun _ => 0))), ((u5 2), .inl (G.2.1 14, 402, .inl (fun _ => 0))), ((u5 3), .inl (G.2.1 14, 6, .inl (fun _ => 0))), ((u5 4), .inl (G.2.1 14, 42, .inl (fun _ => 0))), (q6, .inr (6, [.int 0, .int 97, .ref (u7 1), .ref (u7 2), .ref (u7 3), .ref (u7 4), .ref (u7 5)])), ((u7 1), .inl (G.2.1 14, 8, .inl (fun _ => 0))), ((u7 2), .inl (G.2.1 14, 8, .inl (fun _ => 0))), ((u7 3), .inl (G.2.1 14, 8, .inl (fun _ => 0))), ((u7 4), .inl (G.2.1 14, 6, .inl (fun _ => 0))), ((u7 5), .inl (G.2.1 14, 7, .inl (fun _ => 0))), (q8, .inr (0, [.int 0, .ref (u9 1), .ref (u9 2)])), ((u9 1), .inl (G.2.1 14, 512, .inl (fun _ => 0))), ((u9 2), .inl (G.2.1 13, 8992, .inl (fun _ => 0)))] H := hP
  have hD : va_D A [(q0, .inr (7, [.int 0, .ref q1, .ref q2, .ref q3, .ref q4, .ref q6, .null, .int 0, .int 0, .int 0])), (q1, .inl (G.2.1 14, 6, .inl (fun _ => 0))), (q2, .inl (G.2.1 15, 6, .inr (.inl (fun _ => 0)))), (q3, .inl (G.2.1 14, 36, .inl (fun _ => 0))), (q4, .inr (2, [.ref (u5 1), .ref (u5 2), .int 0, .ref (u5 3), .ref (u5 4)])), ((u5 1), .inl (G.2.1 14, 402, .inl (fun _ => 0))), ((u5 2), .inl (G.2.1 14, 402, .inl (fun _ => 0))), ((u5 3), .inl (G.2.1 14, 6, .inl (fun _ => 0))), ((u5 4), .inl (G.2.1 14, 42, .inl (fun _ => 0))), (q6, .inr (6, [.int 0, .int 97, .ref (u7 1), .ref (u7 2), .ref (u7 3), .ref (u7 4), .ref (u7 5)])), ((u7 1), .inl (G.2.1 14, 8, .inl (fun _ => 0))), ((u7 2), .inl (G.2.1 14, 8, .inl (fun _ => 0))), ((u7 3), .inl (G.2.1 14, 8, .inl (fun _ => 0))), ((u7 4), .inl (G.2.1 14, 6, .inl (fun _ => 0))), ((u7 5), .inl (G.2.1 14, 7, .inl (fun _ => 0))), (q8, .inr (0, [.int 0, .ref (u9 1), .ref (u9 2)])), ((u9 1), .inl (G.2.1 14, 512, .inl (fun _ => 0))), ((u9 2), .inl (G.2.1 13, 8992, .inl (fun _ => 0)))] := hD
  refine va_putF (D := G.1) (ci := 7) (v := .ref q8) (ty := .object "TwoAsks$Bags") (C := RX7) (T := TX7) (N := 10) hx hb hts (fun _ h9 => List.mem_cons_of_mem _ (inU_wsX70 _ h9)) tyX7 tyX7_ok nmX7 hown hK.1 hP hD hS 0 rfl rfl 6 (by decide) (hts _ (List.mem_cons_of_mem _ mw78)) (fun _ h9 => h9) rfl hin rfl (by decide +kernel) rfl rfl (by exact Nat.le_of_ble_eq_true rfl) dX7_init_63 (fun H locs hP hD hS => ?_)
  have hP : va_P G.1 vwCl [(q0, .inr (7, [.int 0, .ref q1, .ref q2, .ref q3, .ref q4, .ref q6, .ref q8, .int 0, .int 0, .int 0])), (q1, .inl (G.2.1 14, 6, .inl (fun _ => 0))), (q2, .inl (G.2.1 15, 6, .inr (.inl (fun _ => 0)))), (q3, .inl (G.2.1 14, 36, .inl (fun _ => 0))), (q4, .inr (2, [.ref (u5 1), .ref (u5 2), .int 0, .ref (u5 3), .ref (u5 4)])), ((u5 1), .inl (G.2.1 14, 402, .inl (fun _ => 0))), ((u5 2), .inl (G.2.1 14, 402, .inl (fun _ => 0))), ((u5 3), .inl (G.2.1 14, 6, .inl (fun _ => 0))), ((u5 4), .inl (G.2.1 14, 42, .inl (fun _ => 0))), (q6, .inr (6, [.int 0, .int 97, .ref (u7 1), .ref (u7 2), .ref (u7 3), .ref (u7 4), .ref (u7 5)])), ((u7 1), .inl (G.2.1 14, 8, .inl (fun _ => 0))), ((u7 2), .inl (G.2.1 14, 8, .inl (fun _ => 0))), ((u7 3), .inl (G.2.1 14, 8, .inl (fun _ => 0))), ((u7 4), .inl (G.2.1 14, 6, .inl (fun _ => 0))), ((u7 5), .inl (G.2.1 14, 7, .inl (fun _ => 0))), (q8, .inr (0, [.int 0, .ref (u9 1), .ref (u9 2)])), ((u9 1), .inl (G.2.1 14, 512, .inl (fun _ => 0))), ((u9 2), .inl (G.2.1 13, 8992, .inl (fun _ => 0)))] H := hP
  have hD : va_D A [(q0, .inr (7, [.int 0, .ref q1, .ref q2, .ref q3, .ref q4, .ref q6, .ref q8, .int 0, .int 0, .int 0])), (q1, .inl (G.2.1 14, 6, .inl (fun _ => 0))), (q2, .inl (G.2.1 15, 6, .inr (.inl (fun _ => 0)))), (q3, .inl (G.2.1 14, 36, .inl (fun _ => 0))), (q4, .inr (2, [.ref (u5 1), .ref (u5 2), .int 0, .ref (u5 3), .ref (u5 4)])), ((u5 1), .inl (G.2.1 14, 402, .inl (fun _ => 0))), ((u5 2), .inl (G.2.1 14, 402, .inl (fun _ => 0))), ((u5 3), .inl (G.2.1 14, 6, .inl (fun _ => 0))), ((u5 4), .inl (G.2.1 14, 42, .inl (fun _ => 0))), (q6, .inr (6, [.int 0, .int 97, .ref (u7 1), .ref (u7 2), .ref (u7 3), .ref (u7 4), .ref (u7 5)])), ((u7 1), .inl (G.2.1 14, 8, .inl (fun _ => 0))), ((u7 2), .inl (G.2.1 14, 8, .inl (fun _ => 0))), ((u7 3), .inl (G.2.1 14, 8, .inl (fun _ => 0))), ((u7 4), .inl (G.2.1 14, 6, .inl (fun _ => 0))), ((u7 5), .inl (G.2.1 14, 7, .inl (fun _ => 0))), (q8, .inr (0, [.int 0, .ref (u9 1), .ref (u9 2)])), ((u9 1), .inl (G.2.1 14, 512, .inl (fun _ => 0))), ((u9 2), .inl (G.2.1 13, 8992, .inl (fun _ => 0)))] := hD
  refine lv_aload_n hx hb dX7_init_66 rfl (lv_at hl 0 rfl) ?_
  refine lv_iconst (v := 3) hx hb dX7_init_67 (by decide) ?_
  refine va_put (D := G.1) (ci := 7) (v := .int 3) (ty := .int) (C := RX7) (T := TX7) (N := 10) hx hb hts (fun _ h9 => List.mem_cons_of_mem _ (inU_wsX70 _ h9)) tyX7 tyX7_ok nmX7 hown hK.1 hP hD hS 0 rfl rfl 7 (by decide) (hts _ (List.mem_cons_of_mem _ mw79)) (fun _ h9 => h9) rfl (by decide +kernel) rfl rfl (by exact Nat.le_of_ble_eq_true rfl) dX7_init_68 (fun H locs hP hD hS => ?_)
  have hP : va_P G.1 vwCl [(q0, .inr (7, [.int 0, .ref q1, .ref q2, .ref q3, .ref q4, .ref q6, .ref q8, .int 3, .int 0, .int 0])), (q1, .inl (G.2.1 14, 6, .inl (fun _ => 0))), (q2, .inl (G.2.1 15, 6, .inr (.inl (fun _ => 0)))), (q3, .inl (G.2.1 14, 36, .inl (fun _ => 0))), (q4, .inr (2, [.ref (u5 1), .ref (u5 2), .int 0, .ref (u5 3), .ref (u5 4)])), ((u5 1), .inl (G.2.1 14, 402, .inl (fun _ => 0))), ((u5 2), .inl (G.2.1 14, 402, .inl (fun _ => 0))), ((u5 3), .inl (G.2.1 14, 6, .inl (fun _ => 0))), ((u5 4), .inl (G.2.1 14, 42, .inl (fun _ => 0))), (q6, .inr (6, [.int 0, .int 97, .ref (u7 1), .ref (u7 2), .ref (u7 3), .ref (u7 4), .ref (u7 5)])), ((u7 1), .inl (G.2.1 14, 8, .inl (fun _ => 0))), ((u7 2), .inl (G.2.1 14, 8, .inl (fun _ => 0))), ((u7 3), .inl (G.2.1 14, 8, .inl (fun _ => 0))), ((u7 4), .inl (G.2.1 14, 6, .inl (fun _ => 0))), ((u7 5), .inl (G.2.1 14, 7, .inl (fun _ => 0))), (q8, .inr (0, [.int 0, .ref (u9 1), .ref (u9 2)])), ((u9 1), .inl (G.2.1 14, 512, .inl (fun _ => 0))), ((u9 2), .inl (G.2.1 13, 8992, .inl (fun _ => 0)))] H := hP
  have hD : va_D A [(q0, .inr (7, [.int 0, .ref q1, .ref q2, .ref q3, .ref q4, .ref q6, .ref q8, .int 3, .int 0, .int 0])), (q1, .inl (G.2.1 14, 6, .inl (fun _ => 0))), (q2, .inl (G.2.1 15, 6, .inr (.inl (fun _ => 0)))), (q3, .inl (G.2.1 14, 36, .inl (fun _ => 0))), (q4, .inr (2, [.ref (u5 1), .ref (u5 2), .int 0, .ref (u5 3), .ref (u5 4)])), ((u5 1), .inl (G.2.1 14, 402, .inl (fun _ => 0))), ((u5 2), .inl (G.2.1 14, 402, .inl (fun _ => 0))), ((u5 3), .inl (G.2.1 14, 6, .inl (fun _ => 0))), ((u5 4), .inl (G.2.1 14, 42, .inl (fun _ => 0))), (q6, .inr (6, [.int 0, .int 97, .ref (u7 1), .ref (u7 2), .ref (u7 3), .ref (u7 4), .ref (u7 5)])), ((u7 1), .inl (G.2.1 14, 8, .inl (fun _ => 0))), ((u7 2), .inl (G.2.1 14, 8, .inl (fun _ => 0))), ((u7 3), .inl (G.2.1 14, 8, .inl (fun _ => 0))), ((u7 4), .inl (G.2.1 14, 6, .inl (fun _ => 0))), ((u7 5), .inl (G.2.1 14, 7, .inl (fun _ => 0))), (q8, .inr (0, [.int 0, .ref (u9 1), .ref (u9 2)])), ((u9 1), .inl (G.2.1 14, 512, .inl (fun _ => 0))), ((u9 2), .inl (G.2.1 13, 8992, .inl (fun _ => 0)))] := hD
  refine lv_aload_n hx hb dX7_init_71 rfl (lv_at hl 0 rfl) ?_
  refine lv_iconst (v := 3) hx hb dX7_init_72 (by decide) ?_
  refine va_put (D := G.1) (ci := 7) (v := .int 3) (ty := .int) (C := RX7) (T := TX7) (N := 10) hx hb hts (fun _ h9 => List.mem_cons_of_mem _ (inU_wsX70 _ h9)) tyX7 tyX7_ok nmX7 hown hK.1 hP hD hS 0 rfl rfl 8 (by decide) (hts _ (List.mem_cons_of_mem _ mw80)) (fun _ h9 => h9) rfl (by decide +kernel) rfl rfl (by exact Nat.le_of_ble_eq_true rfl) dX7_init_73 (fun H locs hP hD hS => ?_)
  have hP : va_P G.1 vwCl [(q0, .inr (7, [.int 0, .ref q1, .ref q2, .ref q3, .ref q4, .ref q6, .ref q8, .int 3, .int 3, .int 0])), (q1, .inl (G.2.1 14, 6, .inl (fun _ => 0))), (q2, .inl (G.2.1 15, 6, .inr (.inl (fun _ => 0)))), (q3, .inl (G.2.1 14, 36, .inl (fun _ => 0))), (q4, .inr (2, [.ref (u5 1), .ref (u5 2), .int 0, .ref (u5 3), .ref (u5 4)])), ((u5 1), .inl (G.2.1 14, 402, .inl (fun _ => 0))), ((u5 2), .inl (G.2.1 14, 402, .inl (fun _ => 0))), ((u5 3), .inl (G.2.1 14, 6, .inl (fun _ => 0))), ((u5 4), .inl (G.2.1 14, 42, .inl (fun _ => 0))), (q6, .inr (6, [.int 0, .int 97, .ref (u7 1), .ref (u7 2), .ref (u7 3), .ref (u7 4), .ref (u7 5)])), ((u7 1), .inl (G.2.1 14, 8, .inl (fun _ => 0))), ((u7 2), .inl (G.2.1 14, 8, .inl (fun _ => 0))), ((u7 3), .inl (G.2.1 14, 8, .inl (fun _ => 0))), ((u7 4), .inl (G.2.1 14, 6, .inl (fun _ => 0))), ((u7 5), .inl (G.2.1 14, 7, .inl (fun _ => 0))), (q8, .inr (0, [.int 0, .ref (u9 1), .ref (u9 2)])), ((u9 1), .inl (G.2.1 14, 512, .inl (fun _ => 0))), ((u9 2), .inl (G.2.1 13, 8992, .inl (fun _ => 0)))] H := hP
  have hD : va_D A [(q0, .inr (7, [.int 0, .ref q1, .ref q2, .ref q3, .ref q4, .ref q6, .ref q8, .int 3, .int 3, .int 0])), (q1, .inl (G.2.1 14, 6, .inl (fun _ => 0))), (q2, .inl (G.2.1 15, 6, .inr (.inl (fun _ => 0)))), (q3, .inl (G.2.1 14, 36, .inl (fun _ => 0))), (q4, .inr (2, [.ref (u5 1), .ref (u5 2), .int 0, .ref (u5 3), .ref (u5 4)])), ((u5 1), .inl (G.2.1 14, 402, .inl (fun _ => 0))), ((u5 2), .inl (G.2.1 14, 402, .inl (fun _ => 0))), ((u5 3), .inl (G.2.1 14, 6, .inl (fun _ => 0))), ((u5 4), .inl (G.2.1 14, 42, .inl (fun _ => 0))), (q6, .inr (6, [.int 0, .int 97, .ref (u7 1), .ref (u7 2), .ref (u7 3), .ref (u7 4), .ref (u7 5)])), ((u7 1), .inl (G.2.1 14, 8, .inl (fun _ => 0))), ((u7 2), .inl (G.2.1 14, 8, .inl (fun _ => 0))), ((u7 3), .inl (G.2.1 14, 8, .inl (fun _ => 0))), ((u7 4), .inl (G.2.1 14, 6, .inl (fun _ => 0))), ((u7 5), .inl (G.2.1 14, 7, .inl (fun _ => 0))), (q8, .inr (0, [.int 0, .ref (u9 1), .ref (u9 2)])), ((u9 1), .inl (G.2.1 14, 512, .inl (fun _ => 0))), ((u9 2), .inl (G.2.1 13, 8992, .inl (fun _ => 0)))] := hD
  refine lv_aload_n hx hb dX7_init_76 rfl (lv_at hl 0 rfl) ?_
  refine lv_iconst (v := 0) hx hb dX7_init_77 (by decide) ?_
  refine va_put (D := G.1) (ci := 7) (v := .int 0) (ty := .int) (C := RX7) (T := TX7) (N := 10) hx hb hts (fun _ h9 => List.mem_cons_of_mem _ (inU_wsX70 _ h9)) tyX7 tyX7_ok nmX7 hown hK.1 hP hD hS 0 rfl rfl 9 (by decide) (hts _ (List.mem_cons_of_mem _ mw81)) (fun _ h9 => h9) rfl (by decide +kernel) rfl rfl (by exact Nat.le_of_ble_eq_true rfl) dX7_init_78 (fun H locs hP hD hS => ?_)
  have hP : va_P G.1 vwCl [(q0, .inr (7, [.int 0, .ref q1, .ref q2, .ref q3, .ref q4, .ref q6, .ref q8, .int 3, .int 3, .int 0])), (q1, .inl (G.2.1 14, 6, .inl (fun _ => 0))), (q2, .inl (G.2.1 15, 6, .inr (.inl (fun _ => 0)))), (q3, .inl (G.2.1 14, 36, .inl (fun _ => 0))), (q4, .inr (2, [.ref (u5 1), .ref (u5 2), .int 0, .ref (u5 3), .ref (u5 4)])), ((u5 1), .inl (G.2.1 14, 402, .inl (fun _ => 0))), ((u5 2), .inl (G.2.1 14, 402, .inl (fun _ => 0))), ((u5 3), .inl (G.2.1 14, 6, .inl (fun _ => 0))), ((u5 4), .inl (G.2.1 14, 42, .inl (fun _ => 0))), (q6, .inr (6, [.int 0, .int 97, .ref (u7 1), .ref (u7 2), .ref (u7 3), .ref (u7 4), .ref (u7 5)])), ((u7 1), .inl (G.2.1 14, 8, .inl (fun _ => 0))), ((u7 2), .inl (G.2.1 14, 8, .inl (fun _ => 0))), ((u7 3), .inl (G.2.1 14, 8, .inl (fun _ => 0))), ((u7 4), .inl (G.2.1 14, 6, .inl (fun _ => 0))), ((u7 5), .inl (G.2.1 14, 7, .inl (fun _ => 0))), (q8, .inr (0, [.int 0, .ref (u9 1), .ref (u9 2)])), ((u9 1), .inl (G.2.1 14, 512, .inl (fun _ => 0))), ((u9 2), .inl (G.2.1 13, 8992, .inl (fun _ => 0)))] H := hP
  have hD : va_D A [(q0, .inr (7, [.int 0, .ref q1, .ref q2, .ref q3, .ref q4, .ref q6, .ref q8, .int 3, .int 3, .int 0])), (q1, .inl (G.2.1 14, 6, .inl (fun _ => 0))), (q2, .inl (G.2.1 15, 6, .inr (.inl (fun _ => 0)))), (q3, .inl (G.2.1 14, 36, .inl (fun _ => 0))), (q4, .inr (2, [.ref (u5 1), .ref (u5 2), .int 0, .ref (u5 3), .ref (u5 4)])), ((u5 1), .inl (G.2.1 14, 402, .inl (fun _ => 0))), ((u5 2), .inl (G.2.1 14, 402, .inl (fun _ => 0))), ((u5 3), .inl (G.2.1 14, 6, .inl (fun _ => 0))), ((u5 4), .inl (G.2.1 14, 42, .inl (fun _ => 0))), (q6, .inr (6, [.int 0, .int 97, .ref (u7 1), .ref (u7 2), .ref (u7 3), .ref (u7 4), .ref (u7 5)])), ((u7 1), .inl (G.2.1 14, 8, .inl (fun _ => 0))), ((u7 2), .inl (G.2.1 14, 8, .inl (fun _ => 0))), ((u7 3), .inl (G.2.1 14, 8, .inl (fun _ => 0))), ((u7 4), .inl (G.2.1 14, 6, .inl (fun _ => 0))), ((u7 5), .inl (G.2.1 14, 7, .inl (fun _ => 0))), (q8, .inr (0, [.int 0, .ref (u9 1), .ref (u9 2)])), ((u9 1), .inl (G.2.1 14, 512, .inl (fun _ => 0))), ((u9 2), .inl (G.2.1 13, 8992, .inl (fun _ => 0)))] := hD
  obtain ⟨ad, had⟩ : ∃ ad : Nat → Nat, ad = (fun i => ([q0, q1, q2, q3, q4, (u5 1), (u5 2), (u5 3), (u5 4), q6, (u7 1), (u7 2), (u7 3), (u7 4), (u7 5), q8, (u9 1), (u9 2)] : List Nat).getD i 0) := ⟨_, rfl⟩
  have e0 : q0 = ad 0 := by rw [had]; rfl
  have hP : va_P G.1 vwCl (lk ST (G.1, G.2.1, ad) hText0) H := by rw [had]; exact hP
  have hD : va_D A (lk ST (G.1, G.2.1, ad) hText0) := by rw [had]; exact hD
  have C : kC p s m _ meth c cX7_init 1 none RX7 wUX7_init := ⟨hx, hb, hr, hml, hown, hts, hlocks⟩
  have hW : kW ST (G.1, G.2.1, ad) hText0 A s H locs := ⟨hP, hD, hS⟩
  have hK2 : kK (G.1, G.2.1, ad) s := hK
  refine lv_aload_n hx hb dX7_init_81 rfl (lv_at hl 0 rfl) ?_
  refine W.eq (g2 := F0 m 82 ls [.ref (ad 0)]) (by rw [← e0]) ?_
  refine k_cv hW (va_runV (As := []) (rest := []) (k_fix C) (cT_X7_clear l (G.1, G.2.1, ad) (o := 0) rfl hText0 Q hq) (cwV 0 hts (gU_V mw106 mw107 mw108 mw23 mw109) rfl rfl rfl (by decide +kernel) ⟨Nat.le_of_ble_eq_true rfl, Nat.le_of_ble_eq_true rfl⟩) (k_preV hK2 hW (shT_lt rfl (by decide)) (ceT_7 rfl) (q := (RX7, TX7, 10)) rfl) rfl rfl hl.1 rfl (lv_room (Nat.le_of_ble_eq_true rfl)) dX7_init_82 ⟨Nat.le_of_ble_eq_true rfl, Nat.le_of_ble_eq_true rfl⟩) (fun h1 H locs hq hW => ?_)
  refine W.widen (k := 17) (n := 10456) (Nat.le_of_ble_eq_true rfl) (Nat.le_of_ble_eq_true rfl) ?_
  exact W.vret hx hb hr (fun t ht hW9 => ⟨⟨(ad, h1), rfl, hq, by rw [ht]; exact hW.1, hW.2.1, e0.symm⟩, hW.2.2.F ht⟩) hW.2.2.2.2 dX7_init_85
abbrev ri_X1_init : Room := { frames := 1, cells := 22, slots := 20475, locals := 24 }
set_option maxRecDepth 100000 in
theorem i_X1_init (l : Launch) (G : wG) (q0 : Nat) (qw : Nat) (sz : Nat) : Met l yX1_init wUX1_init ri_X1_init (va_Pc [.ref q0, .ref qw] (fun U => U.heap.size = sz ∧ va_P G.1 vwCl [(q0, .inr (1, [.null, .int 0, .int 0, .int 0, .null, .null, .null]))] U.heap ∧ kK G U ∧ va_D (fun _ => True) [(q0, .inr (1, [.null, .int 0, .int 0, .int 0, .null, .null, .null]))])) (va_Qv (fun _ : (Nat → Nat) × (Nat → Nat) => True) (fun u t => va_P G.1 vwCl [(q0, .inr (1, [.ref (u.1 1), .int 0, .int 0, .int 0, .ref qw, .ref (u.1 2), .ref (u.1 3)])), ((u.1 1), .inl (G.2.1 14, 10000, .inl (fun _ => 0))), ((u.1 2), .inl (G.2.1 14, 10000, .inl (fun _ => 0))), ((u.1 3), ansOut G u.2), ((u.2 0), ansIn G), ((u.2 1), ansIn G), ((u.2 2), ansIn G), ((u.2 3), ansIn G), ((u.2 4), ansIn G), ((u.2 5), ansIn G), ((u.2 6), ansIn G), ((u.2 7), ansIn G), ((u.2 8), ansIn G), ((u.2 9), ansIn G), ((u.2 10), ansIn G), ((u.2 11), ansIn G), ((u.2 12), ansIn G), ((u.2 13), ansIn G), ((u.2 14), ansIn G), ((u.2 15), ansIn G), ((u.2 16), ansIn G), ((u.2 17), ansIn G), ((u.2 18), ansIn G)] t.heap ∧ va_D (va_A [(q0, .inr (1, [.null, .int 0, .int 0, .int 0, .null, .null, .null]))] sz) [(q0, .inr (1, [.ref (u.1 1), .int 0, .int 0, .int 0, .ref qw, .ref (u.1 2), .ref (u.1 3)])), ((u.1 1), .inl (G.2.1 14, 10000, .inl (fun _ => 0))), ((u.1 2), .inl (G.2.1 14, 10000, .inl (fun _ => 0))), ((u.1 3), ansOut G u.2), ((u.2 0), ansIn G), ((u.2 1), ansIn G), ((u.2 2), ansIn G), ((u.2 3), ansIn G), ((u.2 4), ansIn G), ((u.2 5), ansIn G), ((u.2 6), ansIn G), ((u.2 7), ansIn G), ((u.2 8), ansIn G), ((u.2 9), ansIn G), ((u.2 10), ansIn G), ((u.2 11), ansIn G), ((u.2 12), ansIn G), ((u.2 13), ansIn G), ((u.2 14), ansIn G), ((u.2 15), ansIn G), ((u.2 16), ansIn G), ((u.2 17), ansIn G), ((u.2 18), ansIn G)]) (va_A [(q0, .inr (1, [.null, .int 0, .int 0, .int 0, .null, .null, .null]))] sz)) 22 20475 (va_A [(q0, .inr (1, [.null, .int 0, .int 0, .int 0, .null, .null, .null]))] sz) := by
  refine Met.ofW (cc := cX1_init) (maxL := 2) (ret := none) (by decide) rfl ?_
  intro p e s m args below meth c s₁ B hml hv
  obtain ⟨rfl, hsz, hP, hK, hD0⟩ := hv
  have hx := B.exec
  have hb := B.bytes
  have hr := B.returns
  have hts := atoms_spec (ws := wUX1_init) B.pre
  have hown : s.vm.findClass RX1 = some m.cls := findClass_of_methodNamed B.named
  have hlocks := B.notSynchronized
  have hin : meth.name = "<init>" := (name_of_methodNamed B.named B.method).1
  subst hsz
  have hD := hD0.self (sz := s.heap.size)
  generalize hAe : va_A [(q0, .inr (1, [.null, .int 0, .int 0, .int 0, .null, .null, .null]))] s.heap.size = A at hD ⊢
  have hA : ∀ q : Nat, s.heap.size ≤ q → A q := fun q h => by rw [← hAe]; exact Or.inr h
  have hS : va_S A s.heap s.heap [] := va_S.rf
  have hl := lv_entry ([.ref q0, .ref qw]) (n := 2) (Nat.le_of_ble_eq_true rfl)
  rw [lg_entry_eq]
  generalize (lg_sl ([.ref q0, .ref qw]) ++ List.replicate (2 - (lg_sl ([.ref q0, .ref qw])).length) Slot.unset).toArray = ls at hl ⊢
  have hl : lv_has ls 2 [(0, .ref q0), (1, .ref qw)] := hl
  refine lv_aload_n hx hb dX1_init_0 rfl (lv_at hl 0 rfl) ?_
  refine W.objInit hx hb hown (hts _ (List.mem_cons_of_mem _ mw235)) (hts _ (List.mem_cons_of_mem _ mw11)) (hts _ (List.mem_cons_of_mem _ mw12)) rfl (by rw [hml]; exact hl.1) rfl dX1_init_1 (Nat.le_of_ble_eq_true rfl) (Nat.le_of_ble_eq_true rfl) ?_
  refine W.eq (g2 := F0 m 4 ls []) rfl ?_
  refine lv_aload_n hx hb dX1_init_4 rfl (lv_at hl 0 rfl) ?_
  refine lv_sipush (v := 10000) hx hb dX1_init_5 (by decide) ?_
  refine k_newaI (ty := .int) hx hb (hts _ (List.mem_cons_of_mem _ mw62)) rfl rfl hK hP hD hS hA (a0 := (10000, .inl (fun _ => 0))) (fun _ => rfl) (by decide) rfl (Nat.le_of_ble_eq_true rfl) (Nat.le_of_ble_eq_true rfl) (Nat.le_of_ble_eq_true rfl) dX1_init_8 (fun q1 H hP hD hS => ?_)
  have hP : va_P G.1 vwCl [(q0, .inr (1, [.null, .int 0, .int 0, .int 0, .null, .null, .null])), (q1, .inl (G.2.1 14, 10000, .inl (fun _ => 0)))] H := hP
  have hD : va_D A [(q0, .inr (1, [.null, .int 0, .int 0, .int 0, .null, .null, .null])), (q1, .inl (G.2.1 14, 10000, .inl (fun _ => 0)))] := hD
  refine va_putF (D := G.1) (ci := 1) (v := .ref q1) (ty := .array (.int)) (C := RX1) (T := TX1) (N := 7) hx hb hts (fun _ h9 => List.mem_cons_of_mem _ (inU_wsX10 _ h9)) tyX1 tyX1_ok nmX1 hown hK.1 hP hD hS 0 rfl rfl 0 (by decide) (hts _ (List.mem_cons_of_mem _ mw236)) (fun _ h9 => h9) rfl hin rfl (by decide +kernel) rfl rfl (by exact Nat.le_of_ble_eq_true rfl) dX1_init_10 (fun H locs hP hD hS => ?_)
  have hP : va_P G.1 vwCl [(q0, .inr (1, [.ref q1, .int 0, .int 0, .int 0, .null, .null, .null])), (q1, .inl (G.2.1 14, 10000, .inl (fun _ => 0)))] H := hP
  have hD : va_D A [(q0, .inr (1, [.ref q1, .int 0, .int 0, .int 0, .null, .null, .null])), (q1, .inl (G.2.1 14, 10000, .inl (fun _ => 0)))] := hD
  refine lv_aload_n hx hb dX1_init_13 rfl (lv_at hl 0 rfl) ?_
  refine lv_iconst (v := 0) hx hb dX1_init_14 (by decide) ?_
  refine va_put (D := G.1) (ci := 1) (v := .int 0) (ty := .int) (C := RX1) (T := TX1) (N := 7) hx hb hts (fun _ h9 => List.mem_cons_of_mem _ (inU_wsX10 _ h9)) tyX1 tyX1_ok nmX1 hown hK.1 hP hD hS 0 rfl rfl 1 (by decide) (hts _ (List.mem_cons_of_mem _ mw237)) (fun _ h9 => h9) rfl (by decide +kernel) rfl rfl (by exact Nat.le_of_ble_eq_true rfl) dX1_init_15 (fun H locs hP hD hS => ?_)
  have hP : va_P G.1 vwCl [(q0, .inr (1, [.ref q1, .int 0, .int 0, .int 0, .null, .null, .null])), (q1, .inl (G.2.1 14, 10000, .inl (fun _ => 0)))] H := hP
  have hD : va_D A [(q0, .inr (1, [.ref q1, .int 0, .int 0, .int 0, .null, .null, .null])), (q1, .inl (G.2.1 14, 10000, .inl (fun _ => 0)))] := hD
  refine lv_aload_n hx hb dX1_init_18 rfl (lv_at hl 0 rfl) ?_
  refine lv_iconst (v := 0) hx hb dX1_init_19 (by decide) ?_
  refine va_put (D := G.1) (ci := 1) (v := .int 0) (ty := .int) (C := RX1) (T := TX1) (N := 7) hx hb hts (fun _ h9 => List.mem_cons_of_mem _ (inU_wsX10 _ h9)) tyX1 tyX1_ok nmX1 hown hK.1 hP hD hS 0 rfl rfl 2 (by decide) (hts _ (List.mem_cons_of_mem _ mw238)) (fun _ h9 => h9) rfl (by decide +kernel) rfl rfl (by exact Nat.le_of_ble_eq_true rfl) dX1_init_20 (fun H locs hP hD hS => ?_)
  have hP : va_P G.1 vwCl [(q0, .inr (1, [.ref q1, .int 0, .int 0, .int 0, .null, .null, .null])), (q1, .inl (G.2.1 14, 10000, .inl (fun _ => 0)))] H := hP
  have hD : va_D A [(q0, .inr (1, [.ref q1, .int 0, .int 0, .int 0, .null, .null, .null])), (q1, .inl (G.2.1 14, 10000, .inl (fun _ => 0)))] := hD
  refine lv_aload_n hx hb dX1_init_23 rfl (lv_at hl 0 rfl) ?_
  refine lv_iconst (v := 0) hx hb dX1_init_24 (by decide) ?_
  refine va_put (D := G.1) (ci := 1) (v := .int 0) (ty := .int) (C := RX1) (T := TX1) (N := 7) hx hb hts (fun _ h9 => List.mem_cons_of_mem _ (inU_wsX10 _ h9)) tyX1 tyX1_ok nmX1 hown hK.1 hP hD hS 0 rfl rfl 3 (by decide) (hts _ (List.mem_cons_of_mem _ mw239)) (fun _ h9 => h9) rfl (by decide +kernel) rfl rfl (by exact Nat.le_of_ble_eq_true rfl) dX1_init_25 (fun H locs hP hD hS => ?_)
  have hP : va_P G.1 vwCl [(q0, .inr (1, [.ref q1, .int 0, .int 0, .int 0, .null, .null, .null])), (q1, .inl (G.2.1 14, 10000, .inl (fun _ => 0)))] H := hP
  have hD : va_D A [(q0, .inr (1, [.ref q1, .int 0, .int 0, .int 0, .null, .null, .null])), (q1, .inl (G.2.1 14, 10000, .inl (fun _ => 0)))] := hD
  refine lv_aload_n hx hb dX1_init_28 rfl (lv_at hl 0 rfl) ?_
  refine lv_sipush (v := 10000) hx hb dX1_init_29 (by decide) ?_
  refine k_newaI (ty := .int) hx hb (hts _ (List.mem_cons_of_mem _ mw62)) rfl rfl hK hP hD hS hA (a0 := (10000, .inl (fun _ => 0))) (fun _ => rfl) (by decide) rfl (Nat.le_of_ble_eq_true rfl) (Nat.le_of_ble_eq_true rfl) (Nat.le_of_ble_eq_true rfl) dX1_init_32 (fun q2 H hP hD hS => ?_)
  have hP : va_P G.1 vwCl [(q0, .inr (1, [.ref q1, .int 0, .int 0, .int 0, .null, .null, .null])), (q1, .inl (G.2.1 14, 10000, .inl (fun _ => 0))), (q2, .inl (G.2.1 14, 10000, .inl (fun _ => 0)))] H := hP
  have hD : va_D A [(q0, .inr (1, [.ref q1, .int 0, .int 0, .int 0, .null, .null, .null])), (q1, .inl (G.2.1 14, 10000, .inl (fun _ => 0))), (q2, .inl (G.2.1 14, 10000, .inl (fun _ => 0)))] := hD
  refine va_putF (D := G.1) (ci := 1) (v := .ref q2) (ty := .array (.int)) (C := RX1) (T := TX1) (N := 7) hx hb hts (fun _ h9 => List.mem_cons_of_mem _ (inU_wsX10 _ h9)) tyX1 tyX1_ok nmX1 hown hK.1 hP hD hS 0 rfl rfl 5 (by decide) (hts _ (List.mem_cons_of_mem _ mw240)) (fun _ h9 => h9) rfl hin rfl (by decide +kernel) rfl rfl (by exact Nat.le_of_ble_eq_true rfl) dX1_init_34 (fun H locs hP hD hS => ?_)
  have hP : va_P G.1 vwCl [(q0, .inr (1, [.ref q1, .int 0, .int 0, .int 0, .null, .ref q2, .null])), (q1, .inl (G.2.1 14, 10000, .inl (fun _ => 0))), (q2, .inl (G.2.1 14, 10000, .inl (fun _ => 0)))] H := hP
  have hD : va_D A [(q0, .inr (1, [.ref q1, .int 0, .int 0, .int 0, .null, .ref q2, .null])), (q1, .inl (G.2.1 14, 10000, .inl (fun _ => 0))), (q2, .inl (G.2.1 14, 10000, .inl (fun _ => 0)))] := hD
  refine lv_aload_n hx hb dX1_init_37 rfl (lv_at hl 0 rfl) ?_
  refine lv_bipush (v := 19) hx hb dX1_init_38 (by decide) ?_
  refine lv_bipush (v := 24) hx hb dX1_init_40 (by decide) ?_
  refine k_mna hx hb hown (hts _ (List.mem_cons_of_mem _ mw241)) (hts _ (List.mem_cons_of_mem _ mw64)) hK hP hD hS hA (Nat.le_of_ble_eq_true rfl) (Nat.le_of_ble_eq_true rfl) dX1_init_42 (fun q3 r4 H hP hD hS => ?_)
  have hP : va_P G.1 vwCl [(q0, .inr (1, [.ref q1, .int 0, .int 0, .int 0, .null, .ref q2, .null])), (q1, .inl (G.2.1 14, 10000, .inl (fun _ => 0))), (q2, .inl (G.2.1 14, 10000, .inl (fun _ => 0))), (q3, ansOut G r4), ((r4 0), ansIn G), ((r4 1), ansIn G), ((r4 2), ansIn G), ((r4 3), ansIn G), ((r4 4), ansIn G), ((r4 5), ansIn G), ((r4 6), ansIn G), ((r4 7), ansIn G), ((r4 8), ansIn G), ((r4 9), ansIn G), ((r4 10), ansIn G), ((r4 11), ansIn G), ((r4 12), ansIn G), ((r4 13), ansIn G), ((r4 14), ansIn G), ((r4 15), ansIn G), ((r4 16), ansIn G), ((r4 17), ansIn G), ((r4 18), ansIn G)] H := hP
  have hD : va_D A [(q0, .inr (1, [.ref q1, .int 0, .int 0, .int 0, .null, .ref q2, .null])), (q1, .inl (G.2.1 14, 10000, .inl (fun _ => 0))), (q2, .inl (G.2.1 14, 10000, .inl (fun _ => 0))), (q3, ansOut G r4), ((r4 0), ansIn G), ((r4 1), ansIn G), ((r4 2), ansIn G), ((r4 3), ansIn G), ((r4 4), ansIn G), ((r4 5), ansIn G), ((r4 6), ansIn G), ((r4 7), ansIn G), ((r4 8), ansIn G), ((r4 9), ansIn G), ((r4 10), ansIn G), ((r4 11), ansIn G), ((r4 12), ansIn G), ((r4 13), ansIn G), ((r4 14), ansIn G), ((r4 15), ansIn G), ((r4 16), ansIn G), ((r4 17), ansIn G), ((r4 18), ansIn G)] := hD
  refine va_putF (D := G.1) (ci := 1) (v := .ref q3) (ty := .array (.array (.long))) (C := RX1) (T := TX1) (N := 7) hx hb hts (fun _ h9 => List.mem_cons_of_mem _ (inU_wsX10 _ h9)) tyX1 tyX1_ok nmX1 hown hK.1 hP hD hS 0 rfl rfl 6 (by decide) (hts _ (List.mem_cons_of_mem _ mw242)) (fun _ h9 => h9) rfl hin rfl (by decide +kernel) rfl rfl (by exact Nat.le_of_ble_eq_true rfl) dX1_init_46 (fun H locs hP hD hS => ?_)
  have hP : va_P G.1 vwCl [(q0, .inr (1, [.ref q1, .int 0, .int 0, .int 0, .null, .ref q2, .ref q3])), (q1, .inl (G.2.1 14, 10000, .inl (fun _ => 0))), (q2, .inl (G.2.1 14, 10000, .inl (fun _ => 0))), (q3, ansOut G r4), ((r4 0), ansIn G), ((r4 1), ansIn G), ((r4 2), ansIn G), ((r4 3), ansIn G), ((r4 4), ansIn G), ((r4 5), ansIn G), ((r4 6), ansIn G), ((r4 7), ansIn G), ((r4 8), ansIn G), ((r4 9), ansIn G), ((r4 10), ansIn G), ((r4 11), ansIn G), ((r4 12), ansIn G), ((r4 13), ansIn G), ((r4 14), ansIn G), ((r4 15), ansIn G), ((r4 16), ansIn G), ((r4 17), ansIn G), ((r4 18), ansIn G)] H := hP
  have hD : va_D A [(q0, .inr (1, [.ref q1, .int 0, .int 0, .int 0, .null, .ref q2, .ref q3])), (q1, .inl (G.2.1 14, 10000, .inl (fun _ => 0))), (q2, .inl (G.2.1 14, 10000, .inl (fun _ => 0))), (q3, ansOut G r4), ((r4 0), ansIn G), ((r4 1), ansIn G), ((r4 2), ansIn G), ((r4 3), ansIn G), ((r4 4), ansIn G), ((r4 5), ansIn G), ((r4 6), ansIn G), ((r4 7), ansIn G), ((r4 8), ansIn G), ((r4 9), ansIn G), ((r4 10), ansIn G), ((r4 11), ansIn G), ((r4 12), ansIn G), ((r4 13), ansIn G), ((r4 14), ansIn G), ((r4 15), ansIn G), ((r4 16), ansIn G), ((r4 17), ansIn G), ((r4 18), ansIn G)] := hD
  refine lv_aload_n hx hb dX1_init_49 rfl (lv_at hl 0 rfl) ?_
  refine lv_aload_n hx hb dX1_init_50 rfl (lv_at hl 1 rfl) ?_
  refine va_putF (D := G.1) (ci := 1) (v := .ref qw) (ty := .object "TwoAsks$Worlds") (C := RX1) (T := TX1) (N := 7) hx hb hts (fun _ h9 => List.mem_cons_of_mem _ (inU_wsX10 _ h9)) tyX1 tyX1_ok nmX1 hown hK.1 hP hD hS 0 rfl rfl 4 (by decide) (hts _ (List.mem_cons_of_mem _ mw243)) (fun _ h9 => h9) rfl hin rfl (by decide +kernel) rfl rfl (by exact Nat.le_of_ble_eq_true rfl) dX1_init_51 (fun H locs hP hD hS => ?_)
  have hP : va_P G.1 vwCl [(q0, .inr (1, [.ref q1, .int 0, .int 0, .int 0, .ref qw, .ref q2, .ref q3])), (q1, .inl (G.2.1 14, 10000, .inl (fun _ => 0))), (q2, .inl (G.2.1 14, 10000, .inl (fun _ => 0))), (q3, ansOut G r4), ((r4 0), ansIn G), ((r4 1), ansIn G), ((r4 2), ansIn G), ((r4 3), ansIn G), ((r4 4), ansIn G), ((r4 5), ansIn G), ((r4 6), ansIn G), ((r4 7), ansIn G), ((r4 8), ansIn G), ((r4 9), ansIn G), ((r4 10), ansIn G), ((r4 11), ansIn G), ((r4 12), ansIn G), ((r4 13), ansIn G), ((r4 14), ansIn G), ((r4 15), ansIn G), ((r4 16), ansIn G), ((r4 17), ansIn G), ((r4 18), ansIn G)] H := hP
  have hD : va_D A [(q0, .inr (1, [.ref q1, .int 0, .int 0, .int 0, .ref qw, .ref q2, .ref q3])), (q1, .inl (G.2.1 14, 10000, .inl (fun _ => 0))), (q2, .inl (G.2.1 14, 10000, .inl (fun _ => 0))), (q3, ansOut G r4), ((r4 0), ansIn G), ((r4 1), ansIn G), ((r4 2), ansIn G), ((r4 3), ansIn G), ((r4 4), ansIn G), ((r4 5), ansIn G), ((r4 6), ansIn G), ((r4 7), ansIn G), ((r4 8), ansIn G), ((r4 9), ansIn G), ((r4 10), ansIn G), ((r4 11), ansIn G), ((r4 12), ansIn G), ((r4 13), ansIn G), ((r4 14), ansIn G), ((r4 15), ansIn G), ((r4 16), ansIn G), ((r4 17), ansIn G), ((r4 18), ansIn G)] := hD
  refine W.widen (k := 22) (n := 20475) (Nat.le_of_ble_eq_true rfl) (Nat.le_of_ble_eq_true rfl) ?_
  exact W.vret hx hb hr (fun t ht hW => ⟨⟨((fun i => ([q0, q1, q2, q3] : List Nat).getD i 0), r4), rfl, trivial, by rw [ht]; exact hP, hD⟩, hS.F ht⟩) hS.2.2 dX1_init_54
