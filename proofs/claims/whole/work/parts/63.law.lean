/-! THE CLAIM OUT OF ONE WALK OF THE LAW'S BODY. Your part is whole_start (and what it stands on); all else here is the same for every law, but numbers. -/
def R_law : String := "TwoAsksLaw"
def lw_P (b : Addr) (xs : List Int32) (args : Array Value) (s : State) : Prop := args = #[.ref b] ∧ s.IntsAt b xs ∧ xs.length ≤ 3072 ∧ (Jvm.Cond.and given_1 narrow_1).before args s = true
def lw_Q (_ : Array Value) (s : State) (o : Outcome) (t : State) : Prop := o = .returned (some (.int 1)) ∧ Framed s o t [] 600000 7302250
def lw_Z (below : List Frame) (a : Array Value) (s : State) : State → Prop := fun t => ∃ o, t.status = .running ∧ Ended t below o ∧ lw_Q a s o t
/-- the law's own end, with 1 on the stack, nothing written that was there before, its room as the claim has it -/
theorem lw_ret {p : Program} {l : Launch} {e : Env} {s : State} {m : MethodId} {below : List Frame} {meth : Method} {c : Code} {b : Nat} (hx : p.tables.exec = Jvm.exec) (hb : c.code = code) (hr : meth.sig.returnType = ret) (hlocks : meth.locks = false) {pc : Nat} {H : Heap} {ls : Array Slot} (hdg : decode code pc = .ok (.ireturn, 1)) : W p l e room_1 s m #[Value.ref b] below meth c H [] 600000 7302250 (lw_Z below #[Value.ref b] s) (F0 m pc ls [.int 1]) := by
  intro T hT X
  obtain ⟨fs, hret, hrun, hended, hW, hframe⟩ := X.leave (v := some (.int 1)) (hlocks := hlocks) (fun h => by rw [hr] at h; cases h)
  have hmeth' : T.vm.method? m = some meth := X.method'
  refine ⟨T.setFrames fs, ?_, .returned (some (.int 1)), hrun, hended, rfl, ⟨_, rfl⟩, hW, hframe⟩
  jvm_step X.here [X.here.top, hx, hb, hdg, hmeth', hr, ret, narrow_b1]
  (try refine ⟨rfl, ?_⟩); (try refine ⟨rfl, ?_⟩)
  first | (intro acts; rw [hret _ acts rfl rfl rfl]) | rw [hret _ _ rfl rfl rfl]
  exact Steps.refl _
/-- what holds at the law's entry: the machine, the code, the tables' words (any of lw_tbl by 'hts w (by decide +kernel)'), the script of L ints xs at the cell b, what the Statement gives of the start (any of its parts by flat_of_before) -/
def lw_At (p : Program) (s : State) (m : MethodId) (meth : Method) (c : Code) (b L : Nat) (xs : Nat → Int32) : Prop :=
  p.tables.exec = Jvm.exec ∧ c.code = code ∧ meth.sig.returnType = ret ∧ c.maxLocals = 4 ∧ s.vm.findClass R_law = some m.cls ∧ (∀ w ∈ lw_tbl, w.before #[Value.ref b] s = true) ∧ va_X b L xs s s.heap ∧ b < s.heap.size ∧ meth.locks = false ∧ (Jvm.Cond.and given_1 narrow_1).before #[Value.ref b] s = true
/-- what is new since the law's start -/
def lA (s : State) : Nat → Prop := fun q => s.heap.size ≤ q
theorem hKC {Gc Gm : wG} {s : State} (h : kK Gc s ∧ kK Gm s) : kK Gc s := h.1
theorem hKM {Gc Gm : wG} {s : State} (h : kK Gc s ∧ kK Gm s) : kK Gm s := h.2
theorem gL_V {wc : Cond} {own C : String} {idx : Nat} {y : MethodName} (h1 : Cond.methodLink own idx y ∈ wsU) (h2 : Cond.instanceMethod y ∈ wsU) (h3 : Cond.selects C y y ∈ wsU) (h4 : Cond.initialized C ∈ wsU) (h5 : wc ∈ wsU) : GoodIn lw_tbl (wsV own idx C y (wc :: wsU)) := by
  have hl : ∀ w ∈ wsV own idx C y (wc :: wsU), w ∈ wsU := List.forall_mem_append.mpr ⟨List.forall_mem_cons.mpr ⟨h1, List.forall_mem_cons.mpr ⟨h2, List.forall_mem_cons.mpr ⟨h3, List.forall_mem_cons.mpr ⟨h4, fun _ h9 => absurd h9 List.not_mem_nil⟩⟩⟩⟩, List.forall_mem_cons.mpr ⟨h5, fun _ h => h⟩⟩
  exact fun w hw => ⟨twU w (hl w hw), good_of_word (goodU w (hl w hw))⟩
section LROWS
variable {p : Program} {l : Launch} {e : Env} {R : Room} {s : State} {m : MethodId} {args : Array Value} {below : List Frame} {meth : Method} {c : Code} {H : Heap} {locs : List Loc} {cells slots : Nat} {Q : State → Prop}
variable {S S2 : wS} {G G2 : wG} {h h2 : hp} {A : Nat → Prop} {pc : Nat} {ls : Array Slot} {rest st0 : List Value} {a : Array Value}
theorem k_keep (hW2 : kW S2 G2 h2 A s H locs) (hdis : ∀ q, aS S G q → aS S2 G2 q → False) {H1 : Heap} {locs1 : List Loc} (hk : ∀ q : Nat, q < H.size → ¬ aS S G q → H1[q]? = H[q]?) (hS : va_S A s.heap H1 locs1) : kW S2 G2 h2 A s H1 locs1 :=
  ⟨hW2.1.kept (fun k q hq => hk q.1 (hW2.1 k q hq).lt (fun ha => by obtain ⟨h1, rfl⟩ := lk_at hq; exact hdis _ ha ⟨k, h1, rfl⟩)), hW2.2.1, hS⟩
theorem k_li {Qr : Int32 → hp → Prop} (hW : kW S G h A s H locs) (hW2 : kW S2 G2 h2 A s H locs) (hdis : ∀ q, aS S G q → aS S2 G2 q → False) (hr : va_Run p l e R s m args below meth c H locs cells slots 0 0 (F0 m pc ls st0) rest (va_Qi Qr (kB S G) (aS S G) a) (aS S G))
    (kk : ∀ (r : Int32) (h1 : hp) (H1 : Heap) (locs1 : List Loc), Qr r h1 → kW S G h1 A s H1 locs1 → kW S2 G2 h2 A s H1 locs1 → W p l e R s m args below meth c H1 locs1 cells slots Q (F0 m (pc + 3) ls (.int r :: rest))) : W p l e R s m args below meth c H locs cells slots Q (F0 m pc ls st0) :=
  va_calli hr hW.2.2 (fun q _ hq => kW_aS hW q hq) (kW_aS hW) (fun r u t H1 locs1 ht _ hq hB _ hk hS => kk r u H1 locs1 hq (k_back hW ht hB hS) (k_keep hW2 hdis hk hS))
theorem k_ll {Qr : Int64 → hp → Prop} (hW : kW S G h A s H locs) (hW2 : kW S2 G2 h2 A s H locs) (hdis : ∀ q, aS S G q → aS S2 G2 q → False) (hr : va_Run p l e R s m args below meth c H locs cells slots 0 0 (F0 m pc ls st0) rest (va_Ql Qr (kB S G) (aS S G) a) (aS S G))
    (kk : ∀ (r : Int64) (h1 : hp) (H1 : Heap) (locs1 : List Loc), Qr r h1 → kW S G h1 A s H1 locs1 → kW S2 G2 h2 A s H1 locs1 → W p l e R s m args below meth c H1 locs1 cells slots Q (F0 m (pc + 3) ls (.long r :: rest))) : W p l e R s m args below meth c H locs cells slots Q (F0 m pc ls st0) :=
  va_calll hr hW.2.2 (fun q _ hq => kW_aS hW q hq) (kW_aS hW) (fun r u t H1 locs1 ht _ hq hB _ hk hS => kk r u H1 locs1 hq (k_back hW ht hB hS) (k_keep hW2 hdis hk hS))
end LROWS
theorem k_lend {p : Program} {l : Launch} {e : Env} {s : State} {m : MethodId} {below : List Frame} {meth : Method} {c : Code} {b L : Nat} {xs : Nat → Int32} {Gc : wG} (hL : L ≤ 3072) (C0 : lw_At p s m meth c b L xs) {hc : hp} {H : Heap} {locs : List Loc} {ls : Array Slot} (hWc : kW SC Gc hc (lA s) s H locs) {pc : Nat} (hdg : decode code pc = .ok (.ireturn, 1)) : W p l e room_1 s m #[Value.ref b] below meth c H locs 600000 7302250 (lw_Z below #[Value.ref b] s) (F0 m pc ls [.int 1]) := by
  obtain ⟨hx, hb, hr, hml, hown, hts, hX0, hbl, hlocks, hgv⟩ := C0
  refine va_forget (fun q hq => hWc.2.2.2.2 q hq) ?_
  exact lw_ret hx hb hr hlocks hdg
def w_law_232 (L : Nat) (xs : Nat → Int32) (X : Int32 × hp × hp → Prop) (x3 : Int32) (hc hm : hp) : Prop :=
  vp_in (x3 + 1) L ∧ (vp_in (x3 + 2) L ∧ (vp_in (x3 + 3) L ∧ (vp_in (x3 + 4) L ∧ (vp_in (x3 + 5) L ∧ (w_X11_feed hc (xs (ix (x3 + 1))) (xs (ix (x3 + 2))) (xs (ix (x3 + 3))) (xs (ix (x3 + 4))) (xs (ix (x3 + 5))) (fun r2 h1 => vp_in (x3 + 1) L ∧ (vp_in (x3 + 2) L ∧ (vp_in (x3 + 3) L ∧ (vp_in (x3 + 4) L ∧ (vp_in (x3 + 5) L ∧ (w_X12_feed hm (xs (ix (x3 + 1))) (xs (ix (x3 + 2))) (xs (ix (x3 + 3))) (xs (ix (x3 + 4))) (xs (ix (x3 + 5))) (fun r4 h3 => (r2 = r4 → (∀ x3_6, x3_6 = x3 + 6 → (X (x3_6, h1, h3)))) ∧ (¬ (r2 = r4) → (False))))))))))))))
def w_law_295 (L : Nat) (xs : Nat → Int32) (X : Int32 × hp × hp → Prop) (x3 : Int32) (hc hm : hp) : Prop :=
  vp_in (x3 + 1) L ∧ (w_X11_back hc (xs (ix (x3 + 1))) (fun r8 h7 => vp_in (x3 + 1) L ∧ (w_X12_back hm (xs (ix (x3 + 1))) (fun r10 h9 => (r8 = r10 → (∀ x3_12, x3_12 = x3 + 6 → (X (x3_12, h7, h9)))) ∧ (¬ (r8 = r10) → (False))))))
def w_law_318 (L : Nat) (xs : Nat → Int32) (X : Int32 × hp × hp → Prop) (x3 : Int32) (hc hm : hp) : Prop :=
  w_X11_read hc (fun r14 h13 => w_X12_read hm (fun r16 h15 => (r14 = r16 → (∀ x3_18, x3_18 = x3 + 6 → (X (x3_18, h13, h15)))) ∧ (¬ (r14 = r16) → (False))))
def w_law_331 (L : Nat) (xs : Nat → Int32) (X : Int32 × hp × hp → Prop) (x3 : Int32) (hc hm : hp) : Prop :=
  w_X11_place hc (fun r20 => w_X12_place hm (fun r22 => (r20 = r22 → (∀ x3_24, x3_24 = x3 + 6 → (X (x3_24, hc, hm)))) ∧ (¬ (r20 = r22) → (False))))
def w_law_344 (L : Nat) (xs : Nat → Int32) (X : Int32 × hp × hp → Prop) (x3 : Int32) (hc hm : hp) : Prop :=
  vp_in (x3 + 1) L ∧ (vp_in (x3 + 2) L ∧ (w_X11_row hc (xs (ix (x3 + 1))) (xs (ix (x3 + 2))) (fun r26 => vp_in (x3 + 1) L ∧ (vp_in (x3 + 2) L ∧ (w_X12_row hm (xs (ix (x3 + 1))) (xs (ix (x3 + 2))) (fun r28 => (r26 = r28 → (∀ x3_30, x3_30 = x3 + 6 → (X (x3_30, hc, hm)))) ∧ (¬ (r26 = r28) → (False))))))))
def w_law_377 (L : Nat) (xs : Nat → Int32) (X : Int32 × hp × hp → Prop) (x3 : Int32) (hc hm : hp) : Prop :=
  vp_in (x3 + 1) L ∧ (vp_in (x3 + 2) L ∧ (w_X11_comes hc (xs (ix (x3 + 1))) (xs (ix (x3 + 2))) (fun r32 => vp_in (x3 + 1) L ∧ (vp_in (x3 + 2) L ∧ (w_X12_comes hm (xs (ix (x3 + 1))) (xs (ix (x3 + 2))) (fun r34 => (r32 = r34 → (∀ x3_36, x3_36 = x3 + 6 → (X (x3_36, hc, hm)))) ∧ (¬ (r32 = r34) → (False))))))))
def w_law_411 (L : Nat) (xs : Nat → Int32) (X : Int32 × hp × hp → Prop) (x3 : Int32) (hc hm : hp) : Prop :=
  vp_in (x3 + 1) L ∧ (vp_in (x3 + 2) L ∧ (w_X11_two hc (xs (ix (x3 + 1))) (xs (ix (x3 + 2))) (fun r38 => vp_in (x3 + 1) L ∧ (vp_in (x3 + 2) L ∧ (w_X12_two hm (xs (ix (x3 + 1))) (xs (ix (x3 + 2))) (fun r40 => (r38 = r40 → (∀ x3_42, x3_42 = x3 + 6 → (X (x3_42, hc, hm)))) ∧ (¬ (r38 = r40) → (False))))))))
def w_law_445 (L : Nat) (xs : Nat → Int32) (X : Int32 × hp × hp → Prop) (x3 : Int32) (hc hm : hp) : Prop :=
  vp_in (x3 + 1) L ∧ (vp_in (x3 + 2) L ∧ (vp_in (x3 + 3) L ∧ (vp_in (x3 + 4) L ∧ (w_X11_figure ((lshl ((xs (ix (x3 + 1))).toInt64) 32) ||| (((xs (ix (x3 + 2))).toInt64) &&& 4294967295)) (xs (ix (x3 + 3))) (xs (ix (x3 + 4))) (fun r44 => vp_in (x3 + 1) L ∧ (vp_in (x3 + 2) L ∧ (vp_in (x3 + 3) L ∧ (vp_in (x3 + 4) L ∧ (w_X12_figure ((lshl ((xs (ix (x3 + 1))).toInt64) 32) ||| (((xs (ix (x3 + 2))).toInt64) &&& 4294967295)) (xs (ix (x3 + 3))) (xs (ix (x3 + 4))) (fun r46 => (r44 = r46 → (∀ x3_48, x3_48 = x3 + 6 → (X (x3_48, hc, hm)))) ∧ (¬ (r44 = r46) → (False))))))))))))
def w_law_518 (L : Nat) (xs : Nat → Int32) (X : Int32 × hp × hp → Prop) (x3 : Int32) (hc hm : hp) : Prop :=
  vp_in (x3 + 1) L ∧ (vp_in (x3 + 2) L ∧ (((xs (ix (x3 + 2))) = 0 → (w_X11_clash hc (xs (ix (x3 + 1))) 0 (fun r51 h50 => vp_in (x3 + 1) L ∧ (vp_in (x3 + 2) L ∧ (((xs (ix (x3 + 2))) = 0 → (w_X12_clash hm (xs (ix (x3 + 1))) 0 (fun r54 h53 => (r51 = r54 → (∀ x3_56, x3_56 = x3 + 6 → (X (x3_56, h50, h53)))) ∧ (¬ (r51 = r54) → (False))))) ∧ (¬ ((xs (ix (x3 + 2))) = 0) → (w_X12_clash hm (xs (ix (x3 + 1))) 1 (fun r58 h57 => (r51 = r58 → (∀ x3_60, x3_60 = x3 + 6 → (X (x3_60, h50, h57)))) ∧ (¬ (r51 = r58) → (False)))))))))) ∧ (¬ ((xs (ix (x3 + 2))) = 0) → (w_X11_clash hc (xs (ix (x3 + 1))) 1 (fun r62 h61 => vp_in (x3 + 1) L ∧ (vp_in (x3 + 2) L ∧ (((xs (ix (x3 + 2))) = 0 → (w_X12_clash hm (xs (ix (x3 + 1))) 0 (fun r65 h64 => (r62 = r65 → (∀ x3_67, x3_67 = x3 + 6 → (X (x3_67, h61, h64)))) ∧ (¬ (r62 = r65) → (False))))) ∧ (¬ ((xs (ix (x3 + 2))) = 0) → (w_X12_clash hm (xs (ix (x3 + 1))) 1 (fun r69 h68 => (r62 = r69 → (∀ x3_71, x3_71 = x3 + 6 → (X (x3_71, h61, h68)))) ∧ (¬ (r62 = r69) → (False))))))))))))
def w_law_567 (L : Nat) (xs : Nat → Int32) (X : Int32 × hp × hp → Prop) (x3 : Int32) (hc hm : hp) : Prop :=
  vp_in (x3 + 1) L ∧ (vp_in (x3 + 2) L ∧ (w_X11_world hc (xs (ix (x3 + 1))) (xs (ix (x3 + 2))) (fun r73 => vp_in (x3 + 1) L ∧ (vp_in (x3 + 2) L ∧ (w_X12_world hm (xs (ix (x3 + 1))) (xs (ix (x3 + 2))) (fun r75 => (r73 = r75 → (∀ x3_77, x3_77 = x3 + 6 → (X (x3_77, hc, hm)))) ∧ (¬ (r73 = r75) → (False))))))))
def w_law_600 (L : Nat) (xs : Nat → Int32) (X : Int32 × hp × hp → Prop) (x3 : Int32) (hc hm : hp) : Prop :=
  vp_in (x3 + 1) L ∧ (vp_in (x3 + 2) L ∧ (vp_in (x3 + 3) L ∧ (w_X11_tell hc (xs (ix (x3 + 1))) ((lshl ((xs (ix (x3 + 2))).toInt64) 32) ||| (((xs (ix (x3 + 3))).toInt64) &&& 4294967295)) (fun r79 h78 => vp_in (x3 + 1) L ∧ (vp_in (x3 + 2) L ∧ (vp_in (x3 + 3) L ∧ (w_X12_tell_ hm (xs (ix (x3 + 1))) ((lshl ((xs (ix (x3 + 2))).toInt64) 32) ||| (((xs (ix (x3 + 3))).toInt64) &&& 4294967295)) (fun r81 h80 => (r79 = r81 → (∀ x3_83, x3_83 = x3 + 6 → (X (x3_83, h78, h80)))) ∧ (¬ (r79 = r81) → (False))))))))))
def w_law_663 (L : Nat) (xs : Nat → Int32) (X : Int32 × hp × hp → Prop) (x3 : Int32) (hc hm : hp) : Prop :=
  w_X11_forget hc (fun r85 h84 => w_X12_forget hm (fun r87 h86 => (r85 = r87 → (∀ x3_89, x3_89 = x3 + 6 → (X (x3_89, h84, h86)))) ∧ (¬ (r85 = r87) → (False))))
def w_law_676 (L : Nat) (xs : Nat → Int32) (X : Int32 × hp × hp → Prop) (x3 : Int32) (hc hm : hp) : Prop :=
  vp_in (x3 + 1) L ∧ (vp_in (x3 + 2) L ∧ (vp_in (x3 + 3) L ∧ (vp_in (x3 + 4) L ∧ (w_X11_fits hc (xs (ix (x3 + 1))) (xs (ix (x3 + 2))) (xs (ix (x3 + 3))) (xs (ix (x3 + 4))) (fun r91 h90 => vp_in (x3 + 1) L ∧ (vp_in (x3 + 2) L ∧ (vp_in (x3 + 3) L ∧ (vp_in (x3 + 4) L ∧ (w_X12_fits hm (xs (ix (x3 + 1))) (xs (ix (x3 + 2))) (xs (ix (x3 + 3))) (xs (ix (x3 + 4))) (fun r93 h92 => (r91 = r93 → (∀ x3_95, x3_95 = x3 + 6 → (X (x3_95, h90, h92)))) ∧ (¬ (r91 = r93) → (False))))))))))))
def w_law_729 (L : Nat) (xs : Nat → Int32) (X : Int32 × hp × hp → Prop) (x3 : Int32) (hc hm : hp) : Prop :=
  vp_in (x3 + 1) L ∧ (vp_in (x3 + 2) L ∧ (vp_in (x3 + 3) L ∧ (w_X11_sure hc (xs (ix (x3 + 1))) (xs (ix (x3 + 2))) (xs (ix (x3 + 3))) (fun r97 h96 => vp_in (x3 + 1) L ∧ (vp_in (x3 + 2) L ∧ (vp_in (x3 + 3) L ∧ (w_X12_sure hm (xs (ix (x3 + 1))) (xs (ix (x3 + 2))) (xs (ix (x3 + 3))) (fun r99 h98 => (r97 = r99 → (∀ x3_101, x3_101 = x3 + 6 → (X (x3_101, h96, h98)))) ∧ (¬ (r97 = r99) → (False))))))))))
def w_law_772 (L : Nat) (xs : Nat → Int32) (X : Int32 × hp × hp → Prop) (x3 : Int32) (hc hm : hp) : Prop :=
  vp_in (x3 + 1) L ∧ (vp_in (x3 + 2) L ∧ (vp_in (x3 + 3) L ∧ (vp_in (x3 + 4) L ∧ (w_X11_span hc (xs (ix (x3 + 1))) (xs (ix (x3 + 2))) (xs (ix (x3 + 3))) (xs (ix (x3 + 4))) (fun r103 h102 => vp_in (x3 + 1) L ∧ (vp_in (x3 + 2) L ∧ (vp_in (x3 + 3) L ∧ (vp_in (x3 + 4) L ∧ (w_X12_span hm (xs (ix (x3 + 1))) (xs (ix (x3 + 2))) (xs (ix (x3 + 3))) (xs (ix (x3 + 4))) (fun r105 h104 => (r103 = r105 → (∀ x3_107, x3_107 = x3 + 6 → (X (x3_107, h102, h104)))) ∧ (¬ (r103 = r105) → (False))))))))))))
def w_law_825 (L : Nat) (xs : Nat → Int32) (X : Int32 × hp × hp → Prop) (x3 : Int32) (hc hm : hp) : Prop :=
  vp_in (x3 + 1) L ∧ (vp_in (x3 + 2) L ∧ (vp_in (x3 + 3) L ∧ (w_X11_liars hc (xs (ix (x3 + 1))) (xs (ix (x3 + 2))) (xs (ix (x3 + 3))) (fun r109 h108 => vp_in (x3 + 1) L ∧ (vp_in (x3 + 2) L ∧ (vp_in (x3 + 3) L ∧ (w_X12_liars hm (xs (ix (x3 + 1))) (xs (ix (x3 + 2))) (xs (ix (x3 + 3))) (fun r111 h110 => (r109 = r111 → (∀ x3_113, x3_113 = x3 + 6 → (X (x3_113, h108, h110)))) ∧ (¬ (r109 = r111) → (False))))))))))
def w_law_868 (L : Nat) (xs : Nat → Int32) (X : Int32 × hp × hp → Prop) (x3 : Int32) (hc hm : hp) : Prop :=
  vp_in (x3 + 1) L ∧ (vp_in (x3 + 2) L ∧ (vp_in (x3 + 3) L ∧ (vp_in (x3 + 4) L ∧ (w_X11_next hc (xs (ix (x3 + 1))) (xs (ix (x3 + 2))) (xs (ix (x3 + 3))) (xs (ix (x3 + 4))) (fun r115 h114 => vp_in (x3 + 1) L ∧ (vp_in (x3 + 2) L ∧ (vp_in (x3 + 3) L ∧ (vp_in (x3 + 4) L ∧ (w_X12_next hm (xs (ix (x3 + 1))) (xs (ix (x3 + 2))) (xs (ix (x3 + 3))) (xs (ix (x3 + 4))) (fun r117 h116 => (r115 = r117 → (∀ x3_119, x3_119 = x3 + 6 → (X (x3_119, h114, h116)))) ∧ (¬ (r115 = r117) → (False))))))))))))
def w_law_921 (L : Nat) (xs : Nat → Int32) (X : Int32 × hp × hp → Prop) (x3 : Int32) (hc hm : hp) : Prop :=
  w_X11_once hc (fun r121 h120 => w_X12_once hm (fun r123 h122 => (r121 = r123 → (∀ x3_125, x3_125 = x3 + 6 → (X (x3_125, h120, h122)))) ∧ (¬ (r121 = r123) → (False))))
def w_law_934 (L : Nat) (xs : Nat → Int32) (X : Int32 × hp × hp → Prop) (x3 : Int32) (hc hm : hp) : Prop :=
  vp_in (x3 + 1) L ∧ (w_X11_few hc (xs (ix (x3 + 1))) (fun r127 h126 => vp_in (x3 + 1) L ∧ (w_X12_few hm (xs (ix (x3 + 1))) (fun r129 h128 => (r127 = r129 → (∀ x3_131, x3_131 = x3 + 6 → (X (x3_131, h126, h128)))) ∧ (¬ (r127 = r129) → (False))))))
def w_law_957 (L : Nat) (xs : Nat → Int32) (X : Int32 × hp × hp → Prop) (x3 : Int32) (hc hm : hp) : Prop :=
  vp_in (x3 + 1) L ∧ (vp_in (x3 + 2) L ∧ (w_X11_meets hc (xs (ix (x3 + 1))) (xs (ix (x3 + 2))) (fun r133 => vp_in (x3 + 1) L ∧ (vp_in (x3 + 2) L ∧ (w_X12_meets hm (xs (ix (x3 + 1))) (xs (ix (x3 + 2))) (fun r135 => (r133 = r135 → (∀ x3_137, x3_137 = x3 + 6 → (X (x3_137, hc, hm)))) ∧ (¬ (r133 = r135) → (False))))))))
def w_law_990 (L : Nat) (xs : Nat → Int32) (X : Int32 × hp × hp → Prop) (x3 : Int32) (hc hm : hp) : Prop :=
  vp_in (x3 + 1) L ∧ (vp_in (x3 + 2) L ∧ (w_X11_game hc (xs (ix (x3 + 1))) (xs (ix (x3 + 2))) (fun r139 h138 => vp_in (x3 + 1) L ∧ (vp_in (x3 + 2) L ∧ (w_X12_game hm (xs (ix (x3 + 1))) (xs (ix (x3 + 2))) (fun r141 h140 => (r139 = r141 → (∀ x3_143, x3_143 = x3 + 6 → (X (x3_143, h138, h140)))) ∧ (¬ (r139 = r141) → (False))))))))
def w_law_1023 (L : Nat) (xs : Nat → Int32) (X : Int32 × hp × hp → Prop) (x3 : Int32) (hc hm : hp) : Prop :=
  vp_in (x3 + 1) L ∧ (vp_in (x3 + 2) L ∧ (w_X11_bad hc (xs (ix (x3 + 1))) (xs (ix (x3 + 2))) (fun r145 => vp_in (x3 + 1) L ∧ (vp_in (x3 + 2) L ∧ (w_X12_bad hm (xs (ix (x3 + 1))) (xs (ix (x3 + 2))) (fun r147 => (r145 = r147 → (∀ x3_149, x3_149 = x3 + 6 → (X (x3_149, hc, hm)))) ∧ (¬ (r145 = r147) → (False))))))))
def w_law_1056 (L : Nat) (xs : Nat → Int32) (X : Int32 × hp × hp → Prop) (x3 : Int32) (hc hm : hp) : Prop :=
  vp_in (x3 + 1) L ∧ (vp_in (x3 + 2) L ∧ (w_X11_badSet hc (xs (ix (x3 + 1))) (xs (ix (x3 + 2))) (fun r151 => vp_in (x3 + 1) L ∧ (vp_in (x3 + 2) L ∧ (w_X12_badSet hm (xs (ix (x3 + 1))) (xs (ix (x3 + 2))) (fun r153 => (r151 = r153 → (∀ x3_155, x3_155 = x3 + 6 → (X (x3_155, hc, hm)))) ∧ (¬ (r151 = r153) → (False))))))))
def w_law_1089 (L : Nat) (xs : Nat → Int32) (X : Int32 × hp × hp → Prop) (x3 : Int32) (hc hm : hp) : Prop :=
  w_X11_allTold hc (fun r157 h156 => w_X12_allTold hm (fun r159 => (r157 = r159 → (∀ x3_161, x3_161 = x3 + 6 → (X (x3_161, h156, hm)))) ∧ (¬ (r157 = r159) → (False))))
def w_law_1102 (L : Nat) (xs : Nat → Int32) (X : Int32 × hp × hp → Prop) (x3 : Int32) (hc hm : hp) : Prop :=
  vp_in (x3 + 1) L ∧ (w_X11_secret hc (xs (ix (x3 + 1))) (fun r163 h162 => vp_in (x3 + 1) L ∧ (w_X12_secret hm (xs (ix (x3 + 1))) (fun r165 => (r163 = r165 → (∀ x3_167, x3_167 = x3 + 6 → (X (x3_167, h162, hm)))) ∧ (¬ (r163 = r165) → (False))))))
def w_law_1125 (L : Nat) (xs : Nat → Int32) (X : Int32 × hp × hp → Prop) (x3 : Int32) (hc hm : hp) : Prop :=
  vp_in (x3 + 1) L ∧ (vp_in (x3 + 2) L ∧ (w_X11_shared hc (xs (ix (x3 + 1))) (xs (ix (x3 + 2))) (fun r169 h168 => vp_in (x3 + 1) L ∧ (vp_in (x3 + 2) L ∧ (w_X12_shared hm (xs (ix (x3 + 1))) (xs (ix (x3 + 2))) (fun r171 => (r169 = r171 → (∀ x3_173, x3_173 = x3 + 6 → (X (x3_173, h168, hm)))) ∧ (¬ (r169 = r171) → (False))))))))
def w_law_1158 (L : Nat) (xs : Nat → Int32) (X : Int32 × hp × hp → Prop) (x3 : Int32) (hc hm : hp) : Prop :=
  vp_in (x3 + 1) L ∧ (w_X11_wrong hc (xs (ix (x3 + 1))) (fun r175 h174 => vp_in (x3 + 1) L ∧ (w_X12_wrong hm (xs (ix (x3 + 1))) (fun r177 => (r175 = r177 → (∀ x3_179, x3_179 = x3 + 6 → (X (x3_179, h174, hm)))) ∧ (¬ (r175 = r177) → (False))))))
def w_law_1181 (L : Nat) (xs : Nat → Int32) (X : Int32 × hp × hp → Prop) (x3 : Int32) (hc hm : hp) : Prop :=
  vp_in (x3 + 1) L ∧ (w_X11_hide hc (xs (ix (x3 + 1))) (fun r181 h180 => vp_in (x3 + 1) L ∧ (w_X12_hide hm (xs (ix (x3 + 1))) (fun r183 h182 => (r181 = r183 → (∀ x3_185, x3_185 = x3 + 6 → (X (x3_185, h180, h182)))) ∧ (¬ (r181 = r183) → (False))))))
def w_law_1204 (L : Nat) (xs : Nat → Int32) (X : Int32 × hp × hp → Prop) (x3 : Int32) (hc hm : hp) : Prop :=
  vp_in (x3 + 1) L ∧ (w_X11_ask hc (xs (ix (x3 + 1))) (fun r187 h186 => vp_in (x3 + 1) L ∧ (w_X12_ask hm (xs (ix (x3 + 1))) (fun r189 h188 => (r187 = r189 → (∀ x3_191, x3_191 = x3 + 6 → (X (x3_191, h186, h188)))) ∧ (¬ (r187 = r189) → (False))))))
def w_law_1228 (L : Nat) (xs : Nat → Int32) (X : Int32 × hp × hp → Prop) (x3 : Int32) (hc hm : hp) : Prop :=
  w_X11_asks hc (fun r193 h192 => w_X12_asks hm (fun r195 h194 => (r193 = r195 → (∀ x3_197, x3_197 = x3 + 6 → (X (x3_197, h192, h194)))) ∧ (¬ (r193 = r195) → (False))))
def w_law_1241 (L : Nat) (xs : Nat → Int32) (X : Int32 × hp × hp → Prop) (x3 : Int32) (hc hm : hp) : Prop :=
  vp_in (x3 + 1) L ∧ (vp_in (x3 + 2) L ∧ (vp_in (x3 + 3) L ∧ (w_X11_enough hc (xs (ix (x3 + 1))) (xs (ix (x3 + 2))) (xs (ix (x3 + 3))) (fun r199 h198 => vp_in (x3 + 1) L ∧ (vp_in (x3 + 2) L ∧ (vp_in (x3 + 3) L ∧ (w_X12_enough hm (xs (ix (x3 + 1))) (xs (ix (x3 + 2))) (xs (ix (x3 + 3))) (fun r201 h200 => (r199 = r201 → (∀ x3_203, x3_203 = x3 + 6 → (X (x3_203, h198, h200)))) ∧ (¬ (r199 = r201) → (False))))))))))
def w_law_1284 (L : Nat) (xs : Nat → Int32) (X : Int32 × hp × hp → Prop) (x3 : Int32) (hc hm : hp) : Prop :=
  vp_in (x3 + 1) L ∧ (vp_in (x3 + 2) L ∧ (w_X11_shareRow hc (xs (ix (x3 + 1))) (xs (ix (x3 + 2))) (fun r205 h204 => vp_in (x3 + 1) L ∧ (vp_in (x3 + 2) L ∧ (w_X12_shareRow hm (xs (ix (x3 + 1))) (xs (ix (x3 + 2))) (fun r207 h206 => (r205 = r207 → (∀ x3_209, x3_209 = x3 + 6 → (X (x3_209, h204, h206)))) ∧ (¬ (r205 = r207) → (False))))))))
def w_law_1317 (L : Nat) (xs : Nat → Int32) (X : Int32 × hp × hp → Prop) (x3 : Int32) (hc hm : hp) : Prop :=
  vp_in (x3 + 1) L ∧ (w_X11_cost hc (xs (ix (x3 + 1))) (fun r211 => vp_in (x3 + 1) L ∧ (w_X12_cost hm (xs (ix (x3 + 1))) (fun r213 => (r211 = r213 → (∀ x3_215, x3_215 = x3 + 6 → (X (x3_215, hc, hm)))) ∧ (¬ (r211 = r213) → (False))))))
def w_law_1340 (L : Nat) (xs : Nat → Int32) (X : Int32 × hp × hp → Prop) (x3 : Int32) (hc hm : hp) : Prop :=
  vp_in (x3 + 1) L ∧ (w_X11_degree hc (xs (ix (x3 + 1))) (fun r217 => vp_in (x3 + 1) L ∧ (w_X12_degree hm (xs (ix (x3 + 1))) (fun r219 => (r217 = r219 → (∀ x3_221, x3_221 = x3 + 6 → (X (x3_221, hc, hm)))) ∧ (¬ (r217 = r219) → (False))))))
def w_law_1363 (L : Nat) (xs : Nat → Int32) (X : Int32 × hp × hp → Prop) (x3 : Int32) (hc hm : hp) : Prop :=
  vp_in (x3 + 1) L ∧ (vp_in (x3 + 2) L ∧ (vp_in (x3 + 3) L ∧ (w_X11_worldsAt hc (xs (ix (x3 + 1))) ((lshl ((xs (ix (x3 + 2))).toInt64) 32) ||| (((xs (ix (x3 + 3))).toInt64) &&& 4294967295)) (fun r223 h222 => vp_in (x3 + 1) L ∧ (vp_in (x3 + 2) L ∧ (vp_in (x3 + 3) L ∧ (w_X12_worldsAt hm (xs (ix (x3 + 1))) ((lshl ((xs (ix (x3 + 2))).toInt64) 32) ||| (((xs (ix (x3 + 3))).toInt64) &&& 4294967295)) (fun r225 => (r223 = r225 → (∀ x3_227, x3_227 = x3 + 6 → (X (x3_227, h222, hm)))) ∧ (¬ (r223 = r225) → (False))))))))))
def w_law_1426 (L : Nat) (xs : Nat → Int32) (X : Int32 × hp × hp → Prop) (x3 : Int32) (hc hm : hp) : Prop :=
  vp_in (x3 + 1) L ∧ (vp_in (x3 + 2) L ∧ (w_X11_rest hc (xs (ix (x3 + 1))) (xs (ix (x3 + 2))) (fun r229 => vp_in (x3 + 1) L ∧ (vp_in (x3 + 2) L ∧ (w_X12_rest hm (xs (ix (x3 + 1))) (xs (ix (x3 + 2))) (fun r231 => (r229 = r231 → (∀ x3_233, x3_233 = x3 + 6 → (X (x3_233, hc, hm)))) ∧ (¬ (r229 = r231) → (False))))))))
def w_law_1459 (L : Nat) (xs : Nat → Int32) (X : Int32 × hp × hp → Prop) (x3 : Int32) (hc hm : hp) : Prop :=
  vp_in (x3 + 1) L ∧ (vp_in (x3 + 2) L ∧ (w_X11_alike hc (xs (ix (x3 + 1))) (xs (ix (x3 + 2))) (fun r235 => vp_in (x3 + 1) L ∧ (vp_in (x3 + 2) L ∧ (w_X12_alike hm (xs (ix (x3 + 1))) (xs (ix (x3 + 2))) (fun r237 => (r235 = r237 → (∀ x3_239, x3_239 = x3 + 6 → (X (x3_239, hc, hm)))) ∧ (¬ (r235 = r237) → (False))))))))
def w_law_1492 (L : Nat) (xs : Nat → Int32) (X : Int32 × hp × hp → Prop) (x3 : Int32) (hc hm : hp) : Prop :=
  vp_in (x3 + 1) L ∧ (vp_in (x3 + 2) L ∧ (vp_in (x3 + 3) L ∧ (w_X11_plus hc (xs (ix (x3 + 1))) (xs (ix (x3 + 2))) (xs (ix (x3 + 3))) (fun r241 => vp_in (x3 + 1) L ∧ (vp_in (x3 + 2) L ∧ (vp_in (x3 + 3) L ∧ (w_X12_plus hm (xs (ix (x3 + 1))) (xs (ix (x3 + 2))) (xs (ix (x3 + 3))) (fun r243 => (r241 = r243 → (∀ x3_245, x3_245 = x3 + 6 → (X (x3_245, hc, hm)))) ∧ (¬ (r241 = r243) → (False))))))))))
def w_law_1535 (L : Nat) (xs : Nat → Int32) (X : Int32 × hp × hp → Prop) (x3 : Int32) (hc hm : hp) : Prop :=
  vp_in (x3 + 1) L ∧ (vp_in (x3 + 2) L ∧ (vp_in (x3 + 3) L ∧ (w_X11_times hc (xs (ix (x3 + 1))) (xs (ix (x3 + 2))) (xs (ix (x3 + 3))) (fun r247 => vp_in (x3 + 1) L ∧ (vp_in (x3 + 2) L ∧ (vp_in (x3 + 3) L ∧ (w_X12_times hm (xs (ix (x3 + 1))) (xs (ix (x3 + 2))) (xs (ix (x3 + 3))) (fun r249 => (r247 = r249 → (∀ x3_251, x3_251 = x3 + 6 → (X (x3_251, hc, hm)))) ∧ (¬ (r247 = r249) → (False))))))))))
def w_law_1578 (L : Nat) (xs : Nat → Int32) (X : Int32 × hp × hp → Prop) (x3 : Int32) (hc hm : hp) : Prop :=
  w_X11_margin hc (fun r253 h252 => w_X12_margin hm (fun r255 => (r253 = r255 → (∀ x3_257, x3_257 = x3 + 6 → (X (x3_257, h252, hm)))) ∧ (¬ (r253 = r255) → (False))))
def w_law_1591 (L : Nat) (xs : Nat → Int32) (X : Int32 × hp × hp → Prop) (x3 : Int32) (hc hm : hp) : Prop :=
  vp_in (x3 + 1) L ∧ (vp_in (x3 + 2) L ∧ (w_X11_pair (xs (ix (x3 + 1))) (xs (ix (x3 + 2))) (fun r259 => vp_in (x3 + 1) L ∧ (vp_in (x3 + 2) L ∧ (w_X12_pair (xs (ix (x3 + 1))) (xs (ix (x3 + 2))) (fun r261 => (r259 = r261 → (∀ x3_263, x3_263 = x3 + 6 → (X (x3_263, hc, hm)))) ∧ (¬ (r259 = r261) → (False))))))))
def w_law_1625 (L : Nat) (xs : Nat → Int32) (X : Int32 × hp × hp → Prop) (x3 : Int32) (hc hm : hp) : Prop :=
  vp_in (x3 + 1) L ∧ (vp_in (x3 + 2) L ∧ (vp_in (x3 + 3) L ∧ (((xs (ix (x3 + 3))) = 0 → (w_X11_unpair ((lshl ((xs (ix (x3 + 1))).toInt64) 32) ||| (((xs (ix (x3 + 2))).toInt64) &&& 4294967295)) 0 (fun r266 => vp_in (x3 + 1) L ∧ (vp_in (x3 + 2) L ∧ (vp_in (x3 + 3) L ∧ (((xs (ix (x3 + 3))) = 0 → (w_X12_unpair ((lshl ((xs (ix (x3 + 1))).toInt64) 32) ||| (((xs (ix (x3 + 2))).toInt64) &&& 4294967295)) 0 (fun r269 => (r266 = r269 → (∀ x3_271, x3_271 = x3 + 6 → (X (x3_271, hc, hm)))) ∧ (¬ (r266 = r269) → (False))))) ∧ (¬ ((xs (ix (x3 + 3))) = 0) → (w_X12_unpair ((lshl ((xs (ix (x3 + 1))).toInt64) 32) ||| (((xs (ix (x3 + 2))).toInt64) &&& 4294967295)) 1 (fun r273 => (r266 = r273 → (∀ x3_275, x3_275 = x3 + 6 → (X (x3_275, hc, hm)))) ∧ (¬ (r266 = r273) → (False))))))))))) ∧ (¬ ((xs (ix (x3 + 3))) = 0) → (w_X11_unpair ((lshl ((xs (ix (x3 + 1))).toInt64) 32) ||| (((xs (ix (x3 + 2))).toInt64) &&& 4294967295)) 1 (fun r277 => vp_in (x3 + 1) L ∧ (vp_in (x3 + 2) L ∧ (vp_in (x3 + 3) L ∧ (((xs (ix (x3 + 3))) = 0 → (w_X12_unpair ((lshl ((xs (ix (x3 + 1))).toInt64) 32) ||| (((xs (ix (x3 + 2))).toInt64) &&& 4294967295)) 0 (fun r280 => (r277 = r280 → (∀ x3_282, x3_282 = x3 + 6 → (X (x3_282, hc, hm)))) ∧ (¬ (r277 = r280) → (False))))) ∧ (¬ ((xs (ix (x3 + 3))) = 0) → (w_X12_unpair ((lshl ((xs (ix (x3 + 1))).toInt64) 32) ||| (((xs (ix (x3 + 2))).toInt64) &&& 4294967295)) 1 (fun r284 => (r277 = r284 → (∀ x3_286, x3_286 = x3 + 6 → (X (x3_286, hc, hm)))) ∧ (¬ (r277 = r284) → (False))))))))))))))
def w_law_1705 (L : Nat) (xs : Nat → Int32) (X : Int32 × hp × hp → Prop) (x3 : Int32) (hc hm : hp) : Prop :=
  vp_in (x3 + 1) L ∧ (w_X11_number hc (xs (ix (x3 + 1))) (fun r288 => vp_in (x3 + 1) L ∧ (w_X12_number hm (xs (ix (x3 + 1))) (fun r290 => (r288 = r290 → (∀ x3_292, x3_292 = x3 + 6 → (X (x3_292, hc, hm)))) ∧ (¬ (r288 = r290) → (False))))))
def w_law_1729 (L : Nat) (xs : Nat → Int32) (X : Int32 × hp × hp → Prop) (x3 : Int32) (hc hm : hp) : Prop :=
  vp_in (x3 + 1) L ∧ (w_X11_hold hc (xs (ix (x3 + 1))) (fun r294 h293 => vp_in (x3 + 1) L ∧ (w_X12_hold hm (xs (ix (x3 + 1))) (fun r296 h295 => (r294 = r296 → (∀ x3_298, x3_298 = x3 + 6 → (X (x3_298, h293, h295)))) ∧ (¬ (r294 = r296) → (False))))))
def w_law_1752 (L : Nat) (xs : Nat → Int32) (X : Int32 × hp × hp → Prop) (x3 : Int32) (hc hm : hp) : Prop :=
  vp_in (x3 + 1) L ∧ (w_X11_restore hc (xs (ix (x3 + 1))) (fun r300 h299 => vp_in (x3 + 1) L ∧ (w_X12_restore hm (xs (ix (x3 + 1))) (fun r302 h301 => (r300 = r302 → (∀ x3_304, x3_304 = x3 + 6 → (X (x3_304, h299, h301)))) ∧ (¬ (r300 = r302) → (False))))))
def w_law_1775 (L : Nat) (xs : Nat → Int32) (X : Int32 × hp × hp → Prop) (x3 : Int32) (hc hm : hp) : Prop :=
  vp_in (x3 + 1) L ∧ (w_X11_count hc (xs (ix (x3 + 1))) (fun r306 => vp_in (x3 + 1) L ∧ (w_X12_count hm (xs (ix (x3 + 1))) (fun r308 => (r306 = r308 → (∀ x3_310, x3_310 = x3 + 6 → (X (x3_310, hc, hm)))) ∧ (¬ (r306 = r308) → (False))))))
def w_law_b (L : Nat) (xs : Nat → Int32) (X : Int32 × hp × hp → Prop) (x3 : Int32) (hc hm : hp) : Prop :=
  (((nI L) - 6) < x3 → (True)) ∧ (¬ (((nI L) - 6) < x3) → (vp_in x3 L ∧ (∀ sw312, sw312 = (xs (ix x3)) &&& 63 → ((sw312 = 0 → w_law_232 L xs X x3 hc hm) ∧ (sw312 = 1 → w_law_295 L xs X x3 hc hm) ∧ (sw312 = 2 → w_law_318 L xs X x3 hc hm) ∧ (sw312 = 3 → w_law_331 L xs X x3 hc hm) ∧ (sw312 = 4 → w_law_344 L xs X x3 hc hm) ∧ (sw312 = 5 → w_law_377 L xs X x3 hc hm) ∧ (sw312 = 6 → w_law_411 L xs X x3 hc hm) ∧ (sw312 = 7 → w_law_445 L xs X x3 hc hm) ∧ (sw312 = 8 → w_law_518 L xs X x3 hc hm) ∧ (sw312 = 9 → w_law_567 L xs X x3 hc hm) ∧ (sw312 = 10 → w_law_600 L xs X x3 hc hm) ∧ (sw312 = 11 → w_law_663 L xs X x3 hc hm) ∧ (sw312 = 12 → w_law_676 L xs X x3 hc hm) ∧ (sw312 = 13 → w_law_729 L xs X x3 hc hm) ∧ (sw312 = 14 → w_law_772 L xs X x3 hc hm) ∧ (sw312 = 15 → w_law_825 L xs X x3 hc hm) ∧ (sw312 = 16 → w_law_868 L xs X x3 hc hm) ∧ (sw312 = 17 → w_law_921 L xs X x3 hc hm) ∧ (sw312 = 18 → w_law_934 L xs X x3 hc hm) ∧ (sw312 = 19 → w_law_957 L xs X x3 hc hm) ∧ (sw312 = 20 → w_law_990 L xs X x3 hc hm) ∧ (sw312 = 21 → w_law_1023 L xs X x3 hc hm) ∧ (sw312 = 22 → w_law_1056 L xs X x3 hc hm) ∧ (sw312 = 23 → w_law_1089 L xs X x3 hc hm) ∧ (sw312 = 24 → w_law_1102 L xs X x3 hc hm) ∧ (sw312 = 25 → w_law_1125 L xs X x3 hc hm) ∧ (sw312 = 26 → w_law_1158 L xs X x3 hc hm) ∧ (sw312 = 27 → w_law_1181 L xs X x3 hc hm) ∧ (sw312 = 28 → w_law_1204 L xs X x3 hc hm) ∧ (sw312 = 29 → w_law_1228 L xs X x3 hc hm) ∧ (sw312 = 30 → w_law_1241 L xs X x3 hc hm) ∧ (sw312 = 31 → w_law_1284 L xs X x3 hc hm) ∧ (sw312 = 32 → w_law_1317 L xs X x3 hc hm) ∧ (sw312 = 33 → w_law_1340 L xs X x3 hc hm) ∧ (sw312 = 34 → w_law_1363 L xs X x3 hc hm) ∧ (sw312 = 35 → w_law_1426 L xs X x3 hc hm) ∧ (sw312 = 36 → w_law_1459 L xs X x3 hc hm) ∧ (sw312 = 37 → w_law_1492 L xs X x3 hc hm) ∧ (sw312 = 38 → w_law_1535 L xs X x3 hc hm) ∧ (sw312 = 39 → w_law_1578 L xs X x3 hc hm) ∧ (sw312 = 40 → w_law_1591 L xs X x3 hc hm) ∧ (sw312 = 41 → w_law_1625 L xs X x3 hc hm) ∧ (sw312 = 42 → w_law_1705 L xs X x3 hc hm) ∧ (sw312 = 43 → w_law_1729 L xs X x3 hc hm) ∧ (sw312 = 44 → w_law_1752 L xs X x3 hc hm) ∧ (sw312 = 45 → w_law_1775 L xs X x3 hc hm) ∧ (sw312.toInt < 0 ∨ 45 < sw312.toInt → (∀ x3_360, x3_360 = x3 + 6 → (X (x3_360, hc, hm))))))))
def w_law (L : Nat) (xs : Nat → Int32) (x3 : Int32) (hc hm : hp) : Prop := wLoop (fun X (q : Int32 × hp × hp) => w_law_b L xs X q.1 q.2.1 q.2.2) (x3, hc, hm)
theorem k_law_232 {p : Program} {l : Launch} {e : Env} {s : State} {m : MethodId} {below : List Frame} {meth : Method} {c : Code} {b L : Nat} {xs : Nat → Int32} {Gc Gm : wG} (hL : L ≤ 3072) (C0 : lw_At p s m meth c b L xs) (hK : kK Gc s ∧ kK Gm s) (hdis : ∀ q, aS SC Gc q → aS SM Gm q → False) {X : Int32 × hp × hp → Prop} (hX : ∀ (x3 : Int32) (hc hm : hp) (H : Heap) (locs : List Loc) (ls : Array Slot), kW SC Gc hc (lA s) s H locs → kW SM Gm hm (lA s) s H locs → lv_has ls 4 [(0, .ref b), (1, .ref (Gc.2.2 0)), (2, .ref (Gm.2.2 0)), (3, .int x3)] → X (x3, hc, hm) → W p l e room_1 s m #[Value.ref b] below meth c H locs 600000 7302250 (lw_Z below #[Value.ref b] s) (F0 m 18 ls [])) {x3 : Int32} {hc hm : hp} {H : Heap} {locs : List Loc} {ls : Array Slot} (hWc : kW SC Gc hc (lA s) s H locs) (hWm : kW SM Gm hm (lA s) s H locs) (hl : lv_has ls 4 [(0, .ref b), (1, .ref (Gc.2.2 0)), (2, .ref (Gm.2.2 0)), (3, .int x3)]) (hq : w_law_232 L xs X x3 hc hm) : W p l e room_1 s m #[Value.ref b] below meth c H locs 600000 7302250 (lw_Z below #[Value.ref b] s) (F0 m 232 ls []) := by
  obtain ⟨hx, hb, hr, hml, hown, hts, hX0, hbl, hlocks, hgv⟩ := id C0
  have hbA : ¬ lA s b := Nat.not_le.mpr hbl
  unfold w_law_232 at hq
  refine lv_aload_n hx hb dL_law_232 rfl (lv_at hl 1 rfl) ?_
  refine lv_aload_n hx hb dL_law_233 rfl (lv_at hl 0 rfl) ?_
  refine lv_iload_n hx hb dL_law_234 rfl (lv_at hl 3 rfl) ?_
  refine lv_iconst (v := 1) hx hb dL_law_235 (by decide) ?_
  refine lv_iadd hx hb dL_law_236 ?_
  refine va_sld hx hb hX0 hbl hbA hWc.2.2 hq.1 dL_law_237 ?_
  have hq := hq.2
  refine lv_aload_n hx hb dL_law_238 rfl (lv_at hl 0 rfl) ?_
  refine lv_iload_n hx hb dL_law_239 rfl (lv_at hl 3 rfl) ?_
  refine lv_iconst (v := 2) hx hb dL_law_240 (by decide) ?_
  refine lv_iadd hx hb dL_law_241 ?_
  refine va_sld hx hb hX0 hbl hbA hWc.2.2 hq.1 dL_law_242 ?_
  have hq := hq.2
  refine lv_aload_n hx hb dL_law_243 rfl (lv_at hl 0 rfl) ?_
  refine lv_iload_n hx hb dL_law_244 rfl (lv_at hl 3 rfl) ?_
  refine lv_iconst (v := 3) hx hb dL_law_245 (by decide) ?_
  refine lv_iadd hx hb dL_law_246 ?_
  refine va_sld hx hb hX0 hbl hbA hWc.2.2 hq.1 dL_law_247 ?_
  have hq := hq.2
  refine lv_aload_n hx hb dL_law_248 rfl (lv_at hl 0 rfl) ?_
  refine lv_iload_n hx hb dL_law_249 rfl (lv_at hl 3 rfl) ?_
  refine lv_iconst (v := 4) hx hb dL_law_250 (by decide) ?_
  refine lv_iadd hx hb dL_law_251 ?_
  refine va_sld hx hb hX0 hbl hbA hWc.2.2 hq.1 dL_law_252 ?_
  have hq := hq.2
  refine lv_aload_n hx hb dL_law_253 rfl (lv_at hl 0 rfl) ?_
  refine lv_iload_n hx hb dL_law_254 rfl (lv_at hl 3 rfl) ?_
  refine lv_iconst (v := 5) hx hb dL_law_255 (by decide) ?_
  refine lv_iadd hx hb dL_law_256 ?_
  refine va_sld hx hb hX0 hbl hbA hWc.2.2 hq.1 dL_law_257 ?_
  have hq := hq.2
  refine k_li hWc hWm hdis (va_runV (As := [.int (xs (ix (x3 + 1))), .int (xs (ix (x3 + 2))), .int (xs (ix (x3 + 3))), .int (xs (ix (x3 + 4))), .int (xs (ix (x3 + 5)))]) (rest := []) ⟨hx, hb, hml, hown, hts⟩ (c_X11_feed l Gc hc (xs (ix (x3 + 1))) (xs (ix (x3 + 2))) (xs (ix (x3 + 3))) (xs (ix (x3 + 4))) (xs (ix (x3 + 5))) _ hq) (cwV 5 hts (gL_V mw326 mw327 mw328 mw2 mw329) rfl rfl rfl (by decide +kernel) ⟨Nat.le_of_ble_eq_true rfl, Nat.le_of_ble_eq_true rfl⟩) (k_preV (hKC hK) hWc (shC_lt rfl (by decide)) (ceC_11 rfl) (q := (RX11, TX11, 11)) rfl) rfl rfl hl.1 rfl (lv_room (Nat.le_of_ble_eq_true rfl)) dL_law_258 ⟨Nat.le_refl _, Nat.le_refl _⟩) (fun r2 h1 H locs hq hWc hWm => ?_)
  refine lv_aload_n hx hb dL_law_261 rfl (lv_at hl 2 rfl) ?_
  refine lv_aload_n hx hb dL_law_262 rfl (lv_at hl 0 rfl) ?_
  refine lv_iload_n hx hb dL_law_263 rfl (lv_at hl 3 rfl) ?_
  refine lv_iconst (v := 1) hx hb dL_law_264 (by decide) ?_
  refine lv_iadd hx hb dL_law_265 ?_
  refine va_sld hx hb hX0 hbl hbA hWc.2.2 hq.1 dL_law_266 ?_
  have hq := hq.2
  refine lv_aload_n hx hb dL_law_267 rfl (lv_at hl 0 rfl) ?_
  refine lv_iload_n hx hb dL_law_268 rfl (lv_at hl 3 rfl) ?_
  refine lv_iconst (v := 2) hx hb dL_law_269 (by decide) ?_
  refine lv_iadd hx hb dL_law_270 ?_
  refine va_sld hx hb hX0 hbl hbA hWc.2.2 hq.1 dL_law_271 ?_
  have hq := hq.2
  refine lv_aload_n hx hb dL_law_272 rfl (lv_at hl 0 rfl) ?_
  refine lv_iload_n hx hb dL_law_273 rfl (lv_at hl 3 rfl) ?_
  refine lv_iconst (v := 3) hx hb dL_law_274 (by decide) ?_
  refine lv_iadd hx hb dL_law_275 ?_
  refine va_sld hx hb hX0 hbl hbA hWc.2.2 hq.1 dL_law_276 ?_
  have hq := hq.2
  refine lv_aload_n hx hb dL_law_277 rfl (lv_at hl 0 rfl) ?_
  refine lv_iload_n hx hb dL_law_278 rfl (lv_at hl 3 rfl) ?_
  refine lv_iconst (v := 4) hx hb dL_law_279 (by decide) ?_
  refine lv_iadd hx hb dL_law_280 ?_
  refine va_sld hx hb hX0 hbl hbA hWc.2.2 hq.1 dL_law_281 ?_
  have hq := hq.2
  refine lv_aload_n hx hb dL_law_282 rfl (lv_at hl 0 rfl) ?_
  refine lv_iload_n hx hb dL_law_283 rfl (lv_at hl 3 rfl) ?_
  refine lv_iconst (v := 5) hx hb dL_law_284 (by decide) ?_
  refine lv_iadd hx hb dL_law_285 ?_
  refine va_sld hx hb hX0 hbl hbA hWc.2.2 hq.1 dL_law_286 ?_
  have hq := hq.2
  refine k_li hWm hWc (fun q a b => hdis q b a) (va_runV (As := [.int (xs (ix (x3 + 1))), .int (xs (ix (x3 + 2))), .int (xs (ix (x3 + 3))), .int (xs (ix (x3 + 4))), .int (xs (ix (x3 + 5)))]) (rest := [.int r2]) ⟨hx, hb, hml, hown, hts⟩ (c_X12_feed l Gm hm (xs (ix (x3 + 1))) (xs (ix (x3 + 2))) (xs (ix (x3 + 3))) (xs (ix (x3 + 4))) (xs (ix (x3 + 5))) _ hq) (cwV 5 hts (gL_V mw334 mw335 mw336 mw5 mw337) rfl rfl rfl (by decide +kernel) ⟨Nat.le_of_ble_eq_true rfl, Nat.le_of_ble_eq_true rfl⟩) (k_preV (hKM hK) hWm (shM_lt rfl (by decide)) (ceM_12 rfl) (q := (RX12, TX12, 73)) rfl) rfl rfl hl.1 rfl (lv_room (Nat.le_of_ble_eq_true rfl)) dL_law_287 ⟨Nat.le_refl _, Nat.le_refl _⟩) (fun r4 h3 H locs hq hWm hWc => ?_)
  refine lv_icmp_eq (tgt := 1798) hx hb dL_law_290 (by decide) (fun c5 => ?_) (fun c5 => ?_)
  · have hq := hq.1 c5
    obtain ⟨x3_6, ex3_6⟩ : ∃ y : Int32, y = x3 + 6 := ⟨_, rfl⟩
    have hq := hq x3_6 ex3_6
    refine lv_iinc (v := x3_6) (lv' := [(3, .int x3_6), (0, .ref b), (1, .ref (Gc.2.2 0)), (2, .ref (Gm.2.2 0))]) hx hb dL_law_1798 hl (k := 3) rfl (by rw [ex3_6]; rfl) (by decide) rfl (fun ls hl => ?_)
    refine lv_goto (tgt := 18) hx hb dL_law_1801 (by decide) ?_
    exact hX _ _ _ _ _ _ hWc hWm (lv_sub hl [1, 2, 3, 0] rfl) hq
  · have hq := hq.2 c5
    refine lv_iconst (v := 0) hx hb dL_law_293 (by decide) ?_
    exact hq.elim
theorem k_law_295 {p : Program} {l : Launch} {e : Env} {s : State} {m : MethodId} {below : List Frame} {meth : Method} {c : Code} {b L : Nat} {xs : Nat → Int32} {Gc Gm : wG} (hL : L ≤ 3072) (C0 : lw_At p s m meth c b L xs) (hK : kK Gc s ∧ kK Gm s) (hdis : ∀ q, aS SC Gc q → aS SM Gm q → False) {X : Int32 × hp × hp → Prop} (hX : ∀ (x3 : Int32) (hc hm : hp) (H : Heap) (locs : List Loc) (ls : Array Slot), kW SC Gc hc (lA s) s H locs → kW SM Gm hm (lA s) s H locs → lv_has ls 4 [(0, .ref b), (1, .ref (Gc.2.2 0)), (2, .ref (Gm.2.2 0)), (3, .int x3)] → X (x3, hc, hm) → W p l e room_1 s m #[Value.ref b] below meth c H locs 600000 7302250 (lw_Z below #[Value.ref b] s) (F0 m 18 ls [])) {x3 : Int32} {hc hm : hp} {H : Heap} {locs : List Loc} {ls : Array Slot} (hWc : kW SC Gc hc (lA s) s H locs) (hWm : kW SM Gm hm (lA s) s H locs) (hl : lv_has ls 4 [(0, .ref b), (1, .ref (Gc.2.2 0)), (2, .ref (Gm.2.2 0)), (3, .int x3)]) (hq : w_law_295 L xs X x3 hc hm) : W p l e room_1 s m #[Value.ref b] below meth c H locs 600000 7302250 (lw_Z below #[Value.ref b] s) (F0 m 295 ls []) := by
  obtain ⟨hx, hb, hr, hml, hown, hts, hX0, hbl, hlocks, hgv⟩ := id C0
  have hbA : ¬ lA s b := Nat.not_le.mpr hbl
  unfold w_law_295 at hq
  refine lv_aload_n hx hb dL_law_295 rfl (lv_at hl 1 rfl) ?_
  refine lv_aload_n hx hb dL_law_296 rfl (lv_at hl 0 rfl) ?_
  refine lv_iload_n hx hb dL_law_297 rfl (lv_at hl 3 rfl) ?_
  refine lv_iconst (v := 1) hx hb dL_law_298 (by decide) ?_
  refine lv_iadd hx hb dL_law_299 ?_
  refine va_sld hx hb hX0 hbl hbA hWc.2.2 hq.1 dL_law_300 ?_
  have hq := hq.2
  refine k_li hWc hWm hdis (va_runV (As := [.int (xs (ix (x3 + 1)))]) (rest := []) ⟨hx, hb, hml, hown, hts⟩ (c_X11_back l Gc hc (xs (ix (x3 + 1))) _ hq) (cwV 1 hts (gL_V mw343 mw344 mw345 mw2 mw346) rfl rfl rfl (by decide +kernel) ⟨Nat.le_of_ble_eq_true rfl, Nat.le_of_ble_eq_true rfl⟩) (k_preV (hKC hK) hWc (shC_lt rfl (by decide)) (ceC_11 rfl) (q := (RX11, TX11, 11)) rfl) rfl rfl hl.1 rfl (lv_room (Nat.le_of_ble_eq_true rfl)) dL_law_301 ⟨Nat.le_refl _, Nat.le_refl _⟩) (fun r8 h7 H locs hq hWc hWm => ?_)
  refine lv_aload_n hx hb dL_law_304 rfl (lv_at hl 2 rfl) ?_
  refine lv_aload_n hx hb dL_law_305 rfl (lv_at hl 0 rfl) ?_
  refine lv_iload_n hx hb dL_law_306 rfl (lv_at hl 3 rfl) ?_
  refine lv_iconst (v := 1) hx hb dL_law_307 (by decide) ?_
  refine lv_iadd hx hb dL_law_308 ?_
  refine va_sld hx hb hX0 hbl hbA hWc.2.2 hq.1 dL_law_309 ?_
  have hq := hq.2
  refine k_li hWm hWc (fun q a b => hdis q b a) (va_runV (As := [.int (xs (ix (x3 + 1)))]) (rest := [.int r8]) ⟨hx, hb, hml, hown, hts⟩ (c_X12_back l Gm hm (xs (ix (x3 + 1))) _ hq) (cwV 1 hts (gL_V mw347 mw348 mw349 mw5 mw350) rfl rfl rfl (by decide +kernel) ⟨Nat.le_of_ble_eq_true rfl, Nat.le_of_ble_eq_true rfl⟩) (k_preV (hKM hK) hWm (shM_lt rfl (by decide)) (ceM_12 rfl) (q := (RX12, TX12, 73)) rfl) rfl rfl hl.1 rfl (lv_room (Nat.le_of_ble_eq_true rfl)) dL_law_310 ⟨Nat.le_refl _, Nat.le_refl _⟩) (fun r10 h9 H locs hq hWm hWc => ?_)
  refine lv_icmp_eq (tgt := 1798) hx hb dL_law_313 (by decide) (fun c11 => ?_) (fun c11 => ?_)
  · have hq := hq.1 c11
    obtain ⟨x3_12, ex3_12⟩ : ∃ y : Int32, y = x3 + 6 := ⟨_, rfl⟩
    have hq := hq x3_12 ex3_12
    refine lv_iinc (v := x3_12) (lv' := [(3, .int x3_12), (0, .ref b), (1, .ref (Gc.2.2 0)), (2, .ref (Gm.2.2 0))]) hx hb dL_law_1798 hl (k := 3) rfl (by rw [ex3_12]; rfl) (by decide) rfl (fun ls hl => ?_)
    refine lv_goto (tgt := 18) hx hb dL_law_1801 (by decide) ?_
    exact hX _ _ _ _ _ _ hWc hWm (lv_sub hl [1, 2, 3, 0] rfl) hq
  · have hq := hq.2 c11
    refine lv_iconst (v := 0) hx hb dL_law_316 (by decide) ?_
    exact hq.elim
theorem k_law_318 {p : Program} {l : Launch} {e : Env} {s : State} {m : MethodId} {below : List Frame} {meth : Method} {c : Code} {b L : Nat} {xs : Nat → Int32} {Gc Gm : wG} (hL : L ≤ 3072) (C0 : lw_At p s m meth c b L xs) (hK : kK Gc s ∧ kK Gm s) (hdis : ∀ q, aS SC Gc q → aS SM Gm q → False) {X : Int32 × hp × hp → Prop} (hX : ∀ (x3 : Int32) (hc hm : hp) (H : Heap) (locs : List Loc) (ls : Array Slot), kW SC Gc hc (lA s) s H locs → kW SM Gm hm (lA s) s H locs → lv_has ls 4 [(0, .ref b), (1, .ref (Gc.2.2 0)), (2, .ref (Gm.2.2 0)), (3, .int x3)] → X (x3, hc, hm) → W p l e room_1 s m #[Value.ref b] below meth c H locs 600000 7302250 (lw_Z below #[Value.ref b] s) (F0 m 18 ls [])) {x3 : Int32} {hc hm : hp} {H : Heap} {locs : List Loc} {ls : Array Slot} (hWc : kW SC Gc hc (lA s) s H locs) (hWm : kW SM Gm hm (lA s) s H locs) (hl : lv_has ls 4 [(0, .ref b), (1, .ref (Gc.2.2 0)), (2, .ref (Gm.2.2 0)), (3, .int x3)]) (hq : w_law_318 L xs X x3 hc hm) : W p l e room_1 s m #[Value.ref b] below meth c H locs 600000 7302250 (lw_Z below #[Value.ref b] s) (F0 m 318 ls []) := by
  obtain ⟨hx, hb, hr, hml, hown, hts, hX0, hbl, hlocks, hgv⟩ := id C0
  have hbA : ¬ lA s b := Nat.not_le.mpr hbl
  unfold w_law_318 at hq
  refine lv_aload_n hx hb dL_law_318 rfl (lv_at hl 1 rfl) ?_
  refine k_li hWc hWm hdis (va_runV (As := []) (rest := []) ⟨hx, hb, hml, hown, hts⟩ (c_X11_read l Gc hc _ hq) (cwV 0 hts (gL_V mw351 mw352 mw353 mw2 mw354) rfl rfl rfl (by decide +kernel) ⟨Nat.le_of_ble_eq_true rfl, Nat.le_of_ble_eq_true rfl⟩) (k_preV (hKC hK) hWc (shC_lt rfl (by decide)) (ceC_11 rfl) (q := (RX11, TX11, 11)) rfl) rfl rfl hl.1 rfl (lv_room (Nat.le_of_ble_eq_true rfl)) dL_law_319 ⟨Nat.le_refl _, Nat.le_refl _⟩) (fun r14 h13 H locs hq hWc hWm => ?_)
  refine lv_aload_n hx hb dL_law_322 rfl (lv_at hl 2 rfl) ?_
  refine k_li hWm hWc (fun q a b => hdis q b a) (va_runV (As := []) (rest := [.int r14]) ⟨hx, hb, hml, hown, hts⟩ (c_X12_read l Gm hm _ hq) (cwV 0 hts (gL_V mw601 mw602 mw603 mw5 mw604) rfl rfl rfl (by decide +kernel) ⟨Nat.le_of_ble_eq_true rfl, Nat.le_of_ble_eq_true rfl⟩) (k_preV (hKM hK) hWm (shM_lt rfl (by decide)) (ceM_12 rfl) (q := (RX12, TX12, 73)) rfl) rfl rfl hl.1 rfl (lv_room (Nat.le_of_ble_eq_true rfl)) dL_law_323 ⟨Nat.le_refl _, Nat.le_refl _⟩) (fun r16 h15 H locs hq hWm hWc => ?_)
  refine lv_icmp_eq (tgt := 1798) hx hb dL_law_326 (by decide) (fun c17 => ?_) (fun c17 => ?_)
  · have hq := hq.1 c17
    obtain ⟨x3_18, ex3_18⟩ : ∃ y : Int32, y = x3 + 6 := ⟨_, rfl⟩
    have hq := hq x3_18 ex3_18
    refine lv_iinc (v := x3_18) (lv' := [(3, .int x3_18), (0, .ref b), (1, .ref (Gc.2.2 0)), (2, .ref (Gm.2.2 0))]) hx hb dL_law_1798 hl (k := 3) rfl (by rw [ex3_18]; rfl) (by decide) rfl (fun ls hl => ?_)
    refine lv_goto (tgt := 18) hx hb dL_law_1801 (by decide) ?_
    exact hX _ _ _ _ _ _ hWc hWm (lv_sub hl [1, 2, 3, 0] rfl) hq
  · have hq := hq.2 c17
    refine lv_iconst (v := 0) hx hb dL_law_329 (by decide) ?_
    exact hq.elim
theorem k_law_331 {p : Program} {l : Launch} {e : Env} {s : State} {m : MethodId} {below : List Frame} {meth : Method} {c : Code} {b L : Nat} {xs : Nat → Int32} {Gc Gm : wG} (hL : L ≤ 3072) (C0 : lw_At p s m meth c b L xs) (hK : kK Gc s ∧ kK Gm s) (hdis : ∀ q, aS SC Gc q → aS SM Gm q → False) {X : Int32 × hp × hp → Prop} (hX : ∀ (x3 : Int32) (hc hm : hp) (H : Heap) (locs : List Loc) (ls : Array Slot), kW SC Gc hc (lA s) s H locs → kW SM Gm hm (lA s) s H locs → lv_has ls 4 [(0, .ref b), (1, .ref (Gc.2.2 0)), (2, .ref (Gm.2.2 0)), (3, .int x3)] → X (x3, hc, hm) → W p l e room_1 s m #[Value.ref b] below meth c H locs 600000 7302250 (lw_Z below #[Value.ref b] s) (F0 m 18 ls [])) {x3 : Int32} {hc hm : hp} {H : Heap} {locs : List Loc} {ls : Array Slot} (hWc : kW SC Gc hc (lA s) s H locs) (hWm : kW SM Gm hm (lA s) s H locs) (hl : lv_has ls 4 [(0, .ref b), (1, .ref (Gc.2.2 0)), (2, .ref (Gm.2.2 0)), (3, .int x3)]) (hq : w_law_331 L xs X x3 hc hm) : W p l e room_1 s m #[Value.ref b] below meth c H locs 600000 7302250 (lw_Z below #[Value.ref b] s) (F0 m 331 ls []) := by
  obtain ⟨hx, hb, hr, hml, hown, hts, hX0, hbl, hlocks, hgv⟩ := id C0
  have hbA : ¬ lA s b := Nat.not_le.mpr hbl
  unfold w_law_331 at hq
  refine lv_aload_n hx hb dL_law_331 rfl (lv_at hl 1 rfl) ?_
  refine k_li hWc hWm hdis (va_runV (As := []) (rest := []) ⟨hx, hb, hml, hown, hts⟩ (c_X11_place l Gc hc _ hq) (cwV 0 hts (gL_V mw732 mw733 mw734 mw2 mw735) rfl rfl rfl (by decide +kernel) ⟨Nat.le_of_ble_eq_true rfl, Nat.le_of_ble_eq_true rfl⟩) (k_preV (hKC hK) hWc (shC_lt rfl (by decide)) (ceC_11 rfl) (q := (RX11, TX11, 11)) rfl) rfl rfl hl.1 rfl (lv_room (Nat.le_of_ble_eq_true rfl)) dL_law_332 ⟨Nat.le_refl _, Nat.le_refl _⟩) (fun r20 h19 H locs hq hWc hWm => ?_)
  rw [hq.1] at hWc
  have hq := hq.2
  refine lv_aload_n hx hb dL_law_335 rfl (lv_at hl 2 rfl) ?_
  refine k_li hWm hWc (fun q a b => hdis q b a) (va_runV (As := []) (rest := [.int r20]) ⟨hx, hb, hml, hown, hts⟩ (c_X12_place l Gm hm _ hq) (cwV 0 hts (gL_V mw736 mw737 mw738 mw5 mw739) rfl rfl rfl (by decide +kernel) ⟨Nat.le_of_ble_eq_true rfl, Nat.le_of_ble_eq_true rfl⟩) (k_preV (hKM hK) hWm (shM_lt rfl (by decide)) (ceM_12 rfl) (q := (RX12, TX12, 73)) rfl) rfl rfl hl.1 rfl (lv_room (Nat.le_of_ble_eq_true rfl)) dL_law_336 ⟨Nat.le_refl _, Nat.le_refl _⟩) (fun r22 h21 H locs hq hWm hWc => ?_)
  rw [hq.1] at hWm
  have hq := hq.2
  refine lv_icmp_eq (tgt := 1798) hx hb dL_law_339 (by decide) (fun c23 => ?_) (fun c23 => ?_)
  · have hq := hq.1 c23
    obtain ⟨x3_24, ex3_24⟩ : ∃ y : Int32, y = x3 + 6 := ⟨_, rfl⟩
    have hq := hq x3_24 ex3_24
    refine lv_iinc (v := x3_24) (lv' := [(3, .int x3_24), (0, .ref b), (1, .ref (Gc.2.2 0)), (2, .ref (Gm.2.2 0))]) hx hb dL_law_1798 hl (k := 3) rfl (by rw [ex3_24]; rfl) (by decide) rfl (fun ls hl => ?_)
    refine lv_goto (tgt := 18) hx hb dL_law_1801 (by decide) ?_
    exact hX _ _ _ _ _ _ hWc hWm (lv_sub hl [1, 2, 3, 0] rfl) hq
  · have hq := hq.2 c23
    refine lv_iconst (v := 0) hx hb dL_law_342 (by decide) ?_
    exact hq.elim
theorem k_law_344 {p : Program} {l : Launch} {e : Env} {s : State} {m : MethodId} {below : List Frame} {meth : Method} {c : Code} {b L : Nat} {xs : Nat → Int32} {Gc Gm : wG} (hL : L ≤ 3072) (C0 : lw_At p s m meth c b L xs) (hK : kK Gc s ∧ kK Gm s) (hdis : ∀ q, aS SC Gc q → aS SM Gm q → False) {X : Int32 × hp × hp → Prop} (hX : ∀ (x3 : Int32) (hc hm : hp) (H : Heap) (locs : List Loc) (ls : Array Slot), kW SC Gc hc (lA s) s H locs → kW SM Gm hm (lA s) s H locs → lv_has ls 4 [(0, .ref b), (1, .ref (Gc.2.2 0)), (2, .ref (Gm.2.2 0)), (3, .int x3)] → X (x3, hc, hm) → W p l e room_1 s m #[Value.ref b] below meth c H locs 600000 7302250 (lw_Z below #[Value.ref b] s) (F0 m 18 ls [])) {x3 : Int32} {hc hm : hp} {H : Heap} {locs : List Loc} {ls : Array Slot} (hWc : kW SC Gc hc (lA s) s H locs) (hWm : kW SM Gm hm (lA s) s H locs) (hl : lv_has ls 4 [(0, .ref b), (1, .ref (Gc.2.2 0)), (2, .ref (Gm.2.2 0)), (3, .int x3)]) (hq : w_law_344 L xs X x3 hc hm) : W p l e room_1 s m #[Value.ref b] below meth c H locs 600000 7302250 (lw_Z below #[Value.ref b] s) (F0 m 344 ls []) := by
  obtain ⟨hx, hb, hr, hml, hown, hts, hX0, hbl, hlocks, hgv⟩ := id C0
  have hbA : ¬ lA s b := Nat.not_le.mpr hbl
  unfold w_law_344 at hq
  refine lv_aload_n hx hb dL_law_344 rfl (lv_at hl 1 rfl) ?_
  refine lv_aload_n hx hb dL_law_345 rfl (lv_at hl 0 rfl) ?_
  refine lv_iload_n hx hb dL_law_346 rfl (lv_at hl 3 rfl) ?_
  refine lv_iconst (v := 1) hx hb dL_law_347 (by decide) ?_
  refine lv_iadd hx hb dL_law_348 ?_
  refine va_sld hx hb hX0 hbl hbA hWc.2.2 hq.1 dL_law_349 ?_
  have hq := hq.2
  refine lv_aload_n hx hb dL_law_350 rfl (lv_at hl 0 rfl) ?_
  refine lv_iload_n hx hb dL_law_351 rfl (lv_at hl 3 rfl) ?_
  refine lv_iconst (v := 2) hx hb dL_law_352 (by decide) ?_
  refine lv_iadd hx hb dL_law_353 ?_
  refine va_sld hx hb hX0 hbl hbA hWc.2.2 hq.1 dL_law_354 ?_
  have hq := hq.2
  refine k_li hWc hWm hdis (va_runV (As := [.int (xs (ix (x3 + 1))), .int (xs (ix (x3 + 2)))]) (rest := []) ⟨hx, hb, hml, hown, hts⟩ (c_X11_row l Gc hc (xs (ix (x3 + 1))) (xs (ix (x3 + 2))) _ hq) (cwV 2 hts (gL_V mw740 mw741 mw742 mw2 mw743) rfl rfl rfl (by decide +kernel) ⟨Nat.le_of_ble_eq_true rfl, Nat.le_of_ble_eq_true rfl⟩) (k_preV (hKC hK) hWc (shC_lt rfl (by decide)) (ceC_11 rfl) (q := (RX11, TX11, 11)) rfl) rfl rfl hl.1 rfl (lv_room (Nat.le_of_ble_eq_true rfl)) dL_law_355 ⟨Nat.le_refl _, Nat.le_refl _⟩) (fun r26 h25 H locs hq hWc hWm => ?_)
  rw [hq.1] at hWc
  have hq := hq.2
  refine lv_aload_n hx hb dL_law_358 rfl (lv_at hl 2 rfl) ?_
  refine lv_aload_n hx hb dL_law_359 rfl (lv_at hl 0 rfl) ?_
  refine lv_iload_n hx hb dL_law_360 rfl (lv_at hl 3 rfl) ?_
  refine lv_iconst (v := 1) hx hb dL_law_361 (by decide) ?_
  refine lv_iadd hx hb dL_law_362 ?_
  refine va_sld hx hb hX0 hbl hbA hWc.2.2 hq.1 dL_law_363 ?_
  have hq := hq.2
  refine lv_aload_n hx hb dL_law_364 rfl (lv_at hl 0 rfl) ?_
  refine lv_iload_n hx hb dL_law_365 rfl (lv_at hl 3 rfl) ?_
  refine lv_iconst (v := 2) hx hb dL_law_366 (by decide) ?_
  refine lv_iadd hx hb dL_law_367 ?_
  refine va_sld hx hb hX0 hbl hbA hWc.2.2 hq.1 dL_law_368 ?_
  have hq := hq.2
  refine k_li hWm hWc (fun q a b => hdis q b a) (va_runV (As := [.int (xs (ix (x3 + 1))), .int (xs (ix (x3 + 2)))]) (rest := [.int r26]) ⟨hx, hb, hml, hown, hts⟩ (c_X12_row l Gm hm (xs (ix (x3 + 1))) (xs (ix (x3 + 2))) _ hq) (cwV 2 hts (gL_V mw754 mw755 mw756 mw5 mw757) rfl rfl rfl (by decide +kernel) ⟨Nat.le_of_ble_eq_true rfl, Nat.le_of_ble_eq_true rfl⟩) (k_preV (hKM hK) hWm (shM_lt rfl (by decide)) (ceM_12 rfl) (q := (RX12, TX12, 73)) rfl) rfl rfl hl.1 rfl (lv_room (Nat.le_of_ble_eq_true rfl)) dL_law_369 ⟨Nat.le_refl _, Nat.le_refl _⟩) (fun r28 h27 H locs hq hWm hWc => ?_)
  rw [hq.1] at hWm
  have hq := hq.2
  refine lv_icmp_eq (tgt := 1798) hx hb dL_law_372 (by decide) (fun c29 => ?_) (fun c29 => ?_)
  · have hq := hq.1 c29
    obtain ⟨x3_30, ex3_30⟩ : ∃ y : Int32, y = x3 + 6 := ⟨_, rfl⟩
    have hq := hq x3_30 ex3_30
    refine lv_iinc (v := x3_30) (lv' := [(3, .int x3_30), (0, .ref b), (1, .ref (Gc.2.2 0)), (2, .ref (Gm.2.2 0))]) hx hb dL_law_1798 hl (k := 3) rfl (by rw [ex3_30]; rfl) (by decide) rfl (fun ls hl => ?_)
    refine lv_goto (tgt := 18) hx hb dL_law_1801 (by decide) ?_
    exact hX _ _ _ _ _ _ hWc hWm (lv_sub hl [1, 2, 3, 0] rfl) hq
  · have hq := hq.2 c29
    refine lv_iconst (v := 0) hx hb dL_law_375 (by decide) ?_
    exact hq.elim
theorem k_law_377 {p : Program} {l : Launch} {e : Env} {s : State} {m : MethodId} {below : List Frame} {meth : Method} {c : Code} {b L : Nat} {xs : Nat → Int32} {Gc Gm : wG} (hL : L ≤ 3072) (C0 : lw_At p s m meth c b L xs) (hK : kK Gc s ∧ kK Gm s) (hdis : ∀ q, aS SC Gc q → aS SM Gm q → False) {X : Int32 × hp × hp → Prop} (hX : ∀ (x3 : Int32) (hc hm : hp) (H : Heap) (locs : List Loc) (ls : Array Slot), kW SC Gc hc (lA s) s H locs → kW SM Gm hm (lA s) s H locs → lv_has ls 4 [(0, .ref b), (1, .ref (Gc.2.2 0)), (2, .ref (Gm.2.2 0)), (3, .int x3)] → X (x3, hc, hm) → W p l e room_1 s m #[Value.ref b] below meth c H locs 600000 7302250 (lw_Z below #[Value.ref b] s) (F0 m 18 ls [])) {x3 : Int32} {hc hm : hp} {H : Heap} {locs : List Loc} {ls : Array Slot} (hWc : kW SC Gc hc (lA s) s H locs) (hWm : kW SM Gm hm (lA s) s H locs) (hl : lv_has ls 4 [(0, .ref b), (1, .ref (Gc.2.2 0)), (2, .ref (Gm.2.2 0)), (3, .int x3)]) (hq : w_law_377 L xs X x3 hc hm) : W p l e room_1 s m #[Value.ref b] below meth c H locs 600000 7302250 (lw_Z below #[Value.ref b] s) (F0 m 377 ls []) := by
  obtain ⟨hx, hb, hr, hml, hown, hts, hX0, hbl, hlocks, hgv⟩ := id C0
  have hbA : ¬ lA s b := Nat.not_le.mpr hbl
  unfold w_law_377 at hq
  refine lv_aload_n hx hb dL_law_377 rfl (lv_at hl 1 rfl) ?_
  refine lv_aload_n hx hb dL_law_378 rfl (lv_at hl 0 rfl) ?_
  refine lv_iload_n hx hb dL_law_379 rfl (lv_at hl 3 rfl) ?_
  refine lv_iconst (v := 1) hx hb dL_law_380 (by decide) ?_
  refine lv_iadd hx hb dL_law_381 ?_
  refine va_sld hx hb hX0 hbl hbA hWc.2.2 hq.1 dL_law_382 ?_
  have hq := hq.2
  refine lv_aload_n hx hb dL_law_383 rfl (lv_at hl 0 rfl) ?_
  refine lv_iload_n hx hb dL_law_384 rfl (lv_at hl 3 rfl) ?_
  refine lv_iconst (v := 2) hx hb dL_law_385 (by decide) ?_
  refine lv_iadd hx hb dL_law_386 ?_
  refine va_sld hx hb hX0 hbl hbA hWc.2.2 hq.1 dL_law_387 ?_
  have hq := hq.2
  refine k_ll hWc hWm hdis (va_runV (As := [.int (xs (ix (x3 + 1))), .int (xs (ix (x3 + 2)))]) (rest := []) ⟨hx, hb, hml, hown, hts⟩ (c_X11_comes l Gc hc (xs (ix (x3 + 1))) (xs (ix (x3 + 2))) _ hq) (cwV 2 hts (gL_V mw773 mw774 mw775 mw2 mw776) rfl rfl rfl (by decide +kernel) ⟨Nat.le_of_ble_eq_true rfl, Nat.le_of_ble_eq_true rfl⟩) (k_preV (hKC hK) hWc (shC_lt rfl (by decide)) (ceC_11 rfl) (q := (RX11, TX11, 11)) rfl) rfl rfl hl.1 rfl (lv_room (Nat.le_of_ble_eq_true rfl)) dL_law_388 ⟨Nat.le_refl _, Nat.le_refl _⟩) (fun r32 h31 H locs hq hWc hWm => ?_)
  rw [hq.1] at hWc
  have hq := hq.2
  refine lv_aload_n hx hb dL_law_391 rfl (lv_at hl 2 rfl) ?_
  refine lv_aload_n hx hb dL_law_392 rfl (lv_at hl 0 rfl) ?_
  refine lv_iload_n hx hb dL_law_393 rfl (lv_at hl 3 rfl) ?_
  refine lv_iconst (v := 1) hx hb dL_law_394 (by decide) ?_
  refine lv_iadd hx hb dL_law_395 ?_
  refine va_sld hx hb hX0 hbl hbA hWc.2.2 hq.1 dL_law_396 ?_
  have hq := hq.2
  refine lv_aload_n hx hb dL_law_397 rfl (lv_at hl 0 rfl) ?_
  refine lv_iload_n hx hb dL_law_398 rfl (lv_at hl 3 rfl) ?_
  refine lv_iconst (v := 2) hx hb dL_law_399 (by decide) ?_
  refine lv_iadd hx hb dL_law_400 ?_
  refine va_sld hx hb hX0 hbl hbA hWc.2.2 hq.1 dL_law_401 ?_
  have hq := hq.2
  refine k_ll hWm hWc (fun q a b => hdis q b a) (va_runV (As := [.int (xs (ix (x3 + 1))), .int (xs (ix (x3 + 2)))]) (rest := [.long r32]) ⟨hx, hb, hml, hown, hts⟩ (c_X12_comes l Gm hm (xs (ix (x3 + 1))) (xs (ix (x3 + 2))) _ hq) (cwV 2 hts (gL_V mw786 mw787 mw788 mw5 mw789) rfl rfl rfl (by decide +kernel) ⟨Nat.le_of_ble_eq_true rfl, Nat.le_of_ble_eq_true rfl⟩) (k_preV (hKM hK) hWm (shM_lt rfl (by decide)) (ceM_12 rfl) (q := (RX12, TX12, 73)) rfl) rfl rfl hl.1 rfl (lv_room (Nat.le_of_ble_eq_true rfl)) dL_law_402 ⟨Nat.le_refl _, Nat.le_refl _⟩) (fun r34 h33 H locs hq hWm hWc => ?_)
  rw [hq.1] at hWm
  have hq := hq.2
  refine W.lcmp hx hb dL_law_405 ?_
  refine lv_if_eq (tgt := 1798) hx hb dL_law_406 (by decide) (fun c35 => ?_) (fun c35 => ?_)
  · have hq := hq.1 ((lg_cmp_eq _ _).mp c35)
    obtain ⟨x3_36, ex3_36⟩ : ∃ y : Int32, y = x3 + 6 := ⟨_, rfl⟩
    have hq := hq x3_36 ex3_36
    refine lv_iinc (v := x3_36) (lv' := [(3, .int x3_36), (0, .ref b), (1, .ref (Gc.2.2 0)), (2, .ref (Gm.2.2 0))]) hx hb dL_law_1798 hl (k := 3) rfl (by rw [ex3_36]; rfl) (by decide) rfl (fun ls hl => ?_)
    refine lv_goto (tgt := 18) hx hb dL_law_1801 (by decide) ?_
    exact hX _ _ _ _ _ _ hWc hWm (lv_sub hl [1, 2, 3, 0] rfl) hq
  · have hq := hq.2 (fun z => c35 ((lg_cmp_eq _ _).mpr z))
    refine lv_iconst (v := 0) hx hb dL_law_409 (by decide) ?_
    exact hq.elim
theorem k_law_411 {p : Program} {l : Launch} {e : Env} {s : State} {m : MethodId} {below : List Frame} {meth : Method} {c : Code} {b L : Nat} {xs : Nat → Int32} {Gc Gm : wG} (hL : L ≤ 3072) (C0 : lw_At p s m meth c b L xs) (hK : kK Gc s ∧ kK Gm s) (hdis : ∀ q, aS SC Gc q → aS SM Gm q → False) {X : Int32 × hp × hp → Prop} (hX : ∀ (x3 : Int32) (hc hm : hp) (H : Heap) (locs : List Loc) (ls : Array Slot), kW SC Gc hc (lA s) s H locs → kW SM Gm hm (lA s) s H locs → lv_has ls 4 [(0, .ref b), (1, .ref (Gc.2.2 0)), (2, .ref (Gm.2.2 0)), (3, .int x3)] → X (x3, hc, hm) → W p l e room_1 s m #[Value.ref b] below meth c H locs 600000 7302250 (lw_Z below #[Value.ref b] s) (F0 m 18 ls [])) {x3 : Int32} {hc hm : hp} {H : Heap} {locs : List Loc} {ls : Array Slot} (hWc : kW SC Gc hc (lA s) s H locs) (hWm : kW SM Gm hm (lA s) s H locs) (hl : lv_has ls 4 [(0, .ref b), (1, .ref (Gc.2.2 0)), (2, .ref (Gm.2.2 0)), (3, .int x3)]) (hq : w_law_411 L xs X x3 hc hm) : W p l e room_1 s m #[Value.ref b] below meth c H locs 600000 7302250 (lw_Z below #[Value.ref b] s) (F0 m 411 ls []) := by
  obtain ⟨hx, hb, hr, hml, hown, hts, hX0, hbl, hlocks, hgv⟩ := id C0
  have hbA : ¬ lA s b := Nat.not_le.mpr hbl
  unfold w_law_411 at hq
  refine lv_aload_n hx hb dL_law_411 rfl (lv_at hl 1 rfl) ?_
  refine lv_aload_n hx hb dL_law_412 rfl (lv_at hl 0 rfl) ?_
  refine lv_iload_n hx hb dL_law_413 rfl (lv_at hl 3 rfl) ?_
  refine lv_iconst (v := 1) hx hb dL_law_414 (by decide) ?_
  refine lv_iadd hx hb dL_law_415 ?_
  refine va_sld hx hb hX0 hbl hbA hWc.2.2 hq.1 dL_law_416 ?_
  have hq := hq.2
  refine lv_aload_n hx hb dL_law_417 rfl (lv_at hl 0 rfl) ?_
  refine lv_iload_n hx hb dL_law_418 rfl (lv_at hl 3 rfl) ?_
  refine lv_iconst (v := 2) hx hb dL_law_419 (by decide) ?_
  refine lv_iadd hx hb dL_law_420 ?_
  refine va_sld hx hb hX0 hbl hbA hWc.2.2 hq.1 dL_law_421 ?_
  have hq := hq.2
  refine k_ll hWc hWm hdis (va_runV (As := [.int (xs (ix (x3 + 1))), .int (xs (ix (x3 + 2)))]) (rest := []) ⟨hx, hb, hml, hown, hts⟩ (c_X11_two l Gc hc (xs (ix (x3 + 1))) (xs (ix (x3 + 2))) _ hq) (cwV 2 hts (gL_V mw797 mw798 mw799 mw2 mw800) rfl rfl rfl (by decide +kernel) ⟨Nat.le_of_ble_eq_true rfl, Nat.le_of_ble_eq_true rfl⟩) (k_preV (hKC hK) hWc (shC_lt rfl (by decide)) (ceC_11 rfl) (q := (RX11, TX11, 11)) rfl) rfl rfl hl.1 rfl (lv_room (Nat.le_of_ble_eq_true rfl)) dL_law_422 ⟨Nat.le_refl _, Nat.le_refl _⟩) (fun r38 h37 H locs hq hWc hWm => ?_)
  rw [hq.1] at hWc
  have hq := hq.2
  refine lv_aload_n hx hb dL_law_425 rfl (lv_at hl 2 rfl) ?_
  refine lv_aload_n hx hb dL_law_426 rfl (lv_at hl 0 rfl) ?_
  refine lv_iload_n hx hb dL_law_427 rfl (lv_at hl 3 rfl) ?_
  refine lv_iconst (v := 1) hx hb dL_law_428 (by decide) ?_
  refine lv_iadd hx hb dL_law_429 ?_
  refine va_sld hx hb hX0 hbl hbA hWc.2.2 hq.1 dL_law_430 ?_
  have hq := hq.2
  refine lv_aload_n hx hb dL_law_431 rfl (lv_at hl 0 rfl) ?_
  refine lv_iload_n hx hb dL_law_432 rfl (lv_at hl 3 rfl) ?_
  refine lv_iconst (v := 2) hx hb dL_law_433 (by decide) ?_
  refine lv_iadd hx hb dL_law_434 ?_
  refine va_sld hx hb hX0 hbl hbA hWc.2.2 hq.1 dL_law_435 ?_
  have hq := hq.2
  refine k_ll hWm hWc (fun q a b => hdis q b a) (va_runV (As := [.int (xs (ix (x3 + 1))), .int (xs (ix (x3 + 2)))]) (rest := [.long r38]) ⟨hx, hb, hml, hown, hts⟩ (c_X12_two l Gm hm (xs (ix (x3 + 1))) (xs (ix (x3 + 2))) _ hq) (cwV 2 hts (gL_V mw815 mw816 mw817 mw5 mw818) rfl rfl rfl (by decide +kernel) ⟨Nat.le_of_ble_eq_true rfl, Nat.le_of_ble_eq_true rfl⟩) (k_preV (hKM hK) hWm (shM_lt rfl (by decide)) (ceM_12 rfl) (q := (RX12, TX12, 73)) rfl) rfl rfl hl.1 rfl (lv_room (Nat.le_of_ble_eq_true rfl)) dL_law_436 ⟨Nat.le_refl _, Nat.le_refl _⟩) (fun r40 h39 H locs hq hWm hWc => ?_)
  rw [hq.1] at hWm
  have hq := hq.2
  refine W.lcmp hx hb dL_law_439 ?_
  refine lv_if_eq (tgt := 1798) hx hb dL_law_440 (by decide) (fun c41 => ?_) (fun c41 => ?_)
  · have hq := hq.1 ((lg_cmp_eq _ _).mp c41)
    obtain ⟨x3_42, ex3_42⟩ : ∃ y : Int32, y = x3 + 6 := ⟨_, rfl⟩
    have hq := hq x3_42 ex3_42
    refine lv_iinc (v := x3_42) (lv' := [(3, .int x3_42), (0, .ref b), (1, .ref (Gc.2.2 0)), (2, .ref (Gm.2.2 0))]) hx hb dL_law_1798 hl (k := 3) rfl (by rw [ex3_42]; rfl) (by decide) rfl (fun ls hl => ?_)
    refine lv_goto (tgt := 18) hx hb dL_law_1801 (by decide) ?_
    exact hX _ _ _ _ _ _ hWc hWm (lv_sub hl [1, 2, 3, 0] rfl) hq
  · have hq := hq.2 (fun z => c41 ((lg_cmp_eq _ _).mpr z))
    refine lv_iconst (v := 0) hx hb dL_law_443 (by decide) ?_
    exact hq.elim
theorem k_law_445 {p : Program} {l : Launch} {e : Env} {s : State} {m : MethodId} {below : List Frame} {meth : Method} {c : Code} {b L : Nat} {xs : Nat → Int32} {Gc Gm : wG} (hL : L ≤ 3072) (C0 : lw_At p s m meth c b L xs) (hK : kK Gc s ∧ kK Gm s) (hdis : ∀ q, aS SC Gc q → aS SM Gm q → False) {X : Int32 × hp × hp → Prop} (hX : ∀ (x3 : Int32) (hc hm : hp) (H : Heap) (locs : List Loc) (ls : Array Slot), kW SC Gc hc (lA s) s H locs → kW SM Gm hm (lA s) s H locs → lv_has ls 4 [(0, .ref b), (1, .ref (Gc.2.2 0)), (2, .ref (Gm.2.2 0)), (3, .int x3)] → X (x3, hc, hm) → W p l e room_1 s m #[Value.ref b] below meth c H locs 600000 7302250 (lw_Z below #[Value.ref b] s) (F0 m 18 ls [])) {x3 : Int32} {hc hm : hp} {H : Heap} {locs : List Loc} {ls : Array Slot} (hWc : kW SC Gc hc (lA s) s H locs) (hWm : kW SM Gm hm (lA s) s H locs) (hl : lv_has ls 4 [(0, .ref b), (1, .ref (Gc.2.2 0)), (2, .ref (Gm.2.2 0)), (3, .int x3)]) (hq : w_law_445 L xs X x3 hc hm) : W p l e room_1 s m #[Value.ref b] below meth c H locs 600000 7302250 (lw_Z below #[Value.ref b] s) (F0 m 445 ls []) := by
  obtain ⟨hx, hb, hr, hml, hown, hts, hX0, hbl, hlocks, hgv⟩ := id C0
  have hbA : ¬ lA s b := Nat.not_le.mpr hbl
  unfold w_law_445 at hq
  refine lv_aload_n hx hb dL_law_445 rfl (lv_at hl 1 rfl) ?_
  refine lv_aload_n hx hb dL_law_446 rfl (lv_at hl 0 rfl) ?_
  refine lv_iload_n hx hb dL_law_447 rfl (lv_at hl 3 rfl) ?_
  refine lv_iconst (v := 1) hx hb dL_law_448 (by decide) ?_
  refine lv_iadd hx hb dL_law_449 ?_
  refine va_sld hx hb hX0 hbl hbA hWc.2.2 hq.1 dL_law_450 ?_
  have hq := hq.2
  refine lv_i2l (v := (xs (ix (x3 + 1))).toInt64) hx hb dL_law_451 rfl ?_
  refine lv_bipush (v := 32) hx hb dL_law_452 (by decide) ?_
  refine k_lshl hx hb dL_law_454 ?_
  refine lv_aload_n hx hb dL_law_455 rfl (lv_at hl 0 rfl) ?_
  refine lv_iload_n hx hb dL_law_456 rfl (lv_at hl 3 rfl) ?_
  refine lv_iconst (v := 2) hx hb dL_law_457 (by decide) ?_
  refine lv_iadd hx hb dL_law_458 ?_
  refine va_sld hx hb hX0 hbl hbA hWc.2.2 hq.1 dL_law_459 ?_
  have hq := hq.2
  refine lv_i2l (v := (xs (ix (x3 + 2))).toInt64) hx hb dL_law_460 rfl ?_
  refine lv_ldc2 (v := 4294967295) hx hb hown (hts _ (twU _ mw6)) dL_law_461 ?_
  refine lv_land hx hb dL_law_464 ?_
  refine lv_lor hx hb dL_law_465 ?_
  refine lv_aload_n hx hb dL_law_466 rfl (lv_at hl 0 rfl) ?_
  refine lv_iload_n hx hb dL_law_467 rfl (lv_at hl 3 rfl) ?_
  refine lv_iconst (v := 3) hx hb dL_law_468 (by decide) ?_
  refine lv_iadd hx hb dL_law_469 ?_
  refine va_sld hx hb hX0 hbl hbA hWc.2.2 hq.1 dL_law_470 ?_
  have hq := hq.2
  refine lv_aload_n hx hb dL_law_471 rfl (lv_at hl 0 rfl) ?_
  refine lv_iload_n hx hb dL_law_472 rfl (lv_at hl 3 rfl) ?_
  refine lv_iconst (v := 4) hx hb dL_law_473 (by decide) ?_
  refine lv_iadd hx hb dL_law_474 ?_
  refine va_sld hx hb hX0 hbl hbA hWc.2.2 hq.1 dL_law_475 ?_
  have hq := hq.2
  refine k_li hWc hWm hdis (va_runV (As := [.long ((lshl ((xs (ix (x3 + 1))).toInt64) 32) ||| (((xs (ix (x3 + 2))).toInt64) &&& 4294967295)), .int (xs (ix (x3 + 3))), .int (xs (ix (x3 + 4)))]) (rest := []) ⟨hx, hb, hml, hown, hts⟩ (c_X11_figure l Gc hc ((lshl ((xs (ix (x3 + 1))).toInt64) 32) ||| (((xs (ix (x3 + 2))).toInt64) &&& 4294967295)) (xs (ix (x3 + 3))) (xs (ix (x3 + 4))) _ hq) (cwV 3 hts (gL_V mw830 mw831 mw832 mw2 mw833) rfl rfl rfl (by decide +kernel) ⟨Nat.le_of_ble_eq_true rfl, Nat.le_of_ble_eq_true rfl⟩) (k_preV (hKC hK) hWc (shC_lt rfl (by decide)) (ceC_11 rfl) (q := (RX11, TX11, 11)) rfl) rfl rfl hl.1 rfl (lv_room (Nat.le_of_ble_eq_true rfl)) dL_law_476 ⟨Nat.le_refl _, Nat.le_refl _⟩) (fun r44 h43 H locs hq hWc hWm => ?_)
  rw [hq.1] at hWc
  have hq := hq.2
  refine lv_aload_n hx hb dL_law_479 rfl (lv_at hl 2 rfl) ?_
  refine lv_aload_n hx hb dL_law_480 rfl (lv_at hl 0 rfl) ?_
  refine lv_iload_n hx hb dL_law_481 rfl (lv_at hl 3 rfl) ?_
  refine lv_iconst (v := 1) hx hb dL_law_482 (by decide) ?_
  refine lv_iadd hx hb dL_law_483 ?_
  refine va_sld hx hb hX0 hbl hbA hWc.2.2 hq.1 dL_law_484 ?_
  have hq := hq.2
  refine lv_i2l (v := (xs (ix (x3 + 1))).toInt64) hx hb dL_law_485 rfl ?_
  refine lv_bipush (v := 32) hx hb dL_law_486 (by decide) ?_
  refine k_lshl hx hb dL_law_488 ?_
  refine lv_aload_n hx hb dL_law_489 rfl (lv_at hl 0 rfl) ?_
  refine lv_iload_n hx hb dL_law_490 rfl (lv_at hl 3 rfl) ?_
  refine lv_iconst (v := 2) hx hb dL_law_491 (by decide) ?_
  refine lv_iadd hx hb dL_law_492 ?_
  refine va_sld hx hb hX0 hbl hbA hWc.2.2 hq.1 dL_law_493 ?_
  have hq := hq.2
  refine lv_i2l (v := (xs (ix (x3 + 2))).toInt64) hx hb dL_law_494 rfl ?_
  refine lv_ldc2 (v := 4294967295) hx hb hown (hts _ (twU _ mw6)) dL_law_495 ?_
  refine lv_land hx hb dL_law_498 ?_
  refine lv_lor hx hb dL_law_499 ?_
  refine lv_aload_n hx hb dL_law_500 rfl (lv_at hl 0 rfl) ?_
  refine lv_iload_n hx hb dL_law_501 rfl (lv_at hl 3 rfl) ?_
  refine lv_iconst (v := 3) hx hb dL_law_502 (by decide) ?_
  refine lv_iadd hx hb dL_law_503 ?_
  refine va_sld hx hb hX0 hbl hbA hWc.2.2 hq.1 dL_law_504 ?_
  have hq := hq.2
  refine lv_aload_n hx hb dL_law_505 rfl (lv_at hl 0 rfl) ?_
  refine lv_iload_n hx hb dL_law_506 rfl (lv_at hl 3 rfl) ?_
  refine lv_iconst (v := 4) hx hb dL_law_507 (by decide) ?_
  refine lv_iadd hx hb dL_law_508 ?_
  refine va_sld hx hb hX0 hbl hbA hWc.2.2 hq.1 dL_law_509 ?_
  have hq := hq.2
  refine k_li hWm hWc (fun q a b => hdis q b a) (va_runV (As := [.long ((lshl ((xs (ix (x3 + 1))).toInt64) 32) ||| (((xs (ix (x3 + 2))).toInt64) &&& 4294967295)), .int (xs (ix (x3 + 3))), .int (xs (ix (x3 + 4)))]) (rest := [.int r44]) ⟨hx, hb, hml, hown, hts⟩ (c_X12_figure l Gm hm ((lshl ((xs (ix (x3 + 1))).toInt64) 32) ||| (((xs (ix (x3 + 2))).toInt64) &&& 4294967295)) (xs (ix (x3 + 3))) (xs (ix (x3 + 4))) _ hq) (cwV 3 hts (gL_V mw838 mw839 mw840 mw5 mw841) rfl rfl rfl (by decide +kernel) ⟨Nat.le_of_ble_eq_true rfl, Nat.le_of_ble_eq_true rfl⟩) (k_preV (hKM hK) hWm (shM_lt rfl (by decide)) (ceM_12 rfl) (q := (RX12, TX12, 73)) rfl) rfl rfl hl.1 rfl (lv_room (Nat.le_of_ble_eq_true rfl)) dL_law_510 ⟨Nat.le_refl _, Nat.le_refl _⟩) (fun r46 h45 H locs hq hWm hWc => ?_)
  rw [hq.1] at hWm
  have hq := hq.2
  refine lv_icmp_eq (tgt := 1798) hx hb dL_law_513 (by decide) (fun c47 => ?_) (fun c47 => ?_)
  · have hq := hq.1 c47
    obtain ⟨x3_48, ex3_48⟩ : ∃ y : Int32, y = x3 + 6 := ⟨_, rfl⟩
    have hq := hq x3_48 ex3_48
    refine lv_iinc (v := x3_48) (lv' := [(3, .int x3_48), (0, .ref b), (1, .ref (Gc.2.2 0)), (2, .ref (Gm.2.2 0))]) hx hb dL_law_1798 hl (k := 3) rfl (by rw [ex3_48]; rfl) (by decide) rfl (fun ls hl => ?_)
    refine lv_goto (tgt := 18) hx hb dL_law_1801 (by decide) ?_
    exact hX _ _ _ _ _ _ hWc hWm (lv_sub hl [1, 2, 3, 0] rfl) hq
  · have hq := hq.2 c47
    refine lv_iconst (v := 0) hx hb dL_law_516 (by decide) ?_
    exact hq.elim
theorem k_law_518 {p : Program} {l : Launch} {e : Env} {s : State} {m : MethodId} {below : List Frame} {meth : Method} {c : Code} {b L : Nat} {xs : Nat → Int32} {Gc Gm : wG} (hL : L ≤ 3072) (C0 : lw_At p s m meth c b L xs) (hK : kK Gc s ∧ kK Gm s) (hdis : ∀ q, aS SC Gc q → aS SM Gm q → False) {X : Int32 × hp × hp → Prop} (hX : ∀ (x3 : Int32) (hc hm : hp) (H : Heap) (locs : List Loc) (ls : Array Slot), kW SC Gc hc (lA s) s H locs → kW SM Gm hm (lA s) s H locs → lv_has ls 4 [(0, .ref b), (1, .ref (Gc.2.2 0)), (2, .ref (Gm.2.2 0)), (3, .int x3)] → X (x3, hc, hm) → W p l e room_1 s m #[Value.ref b] below meth c H locs 600000 7302250 (lw_Z below #[Value.ref b] s) (F0 m 18 ls [])) {x3 : Int32} {hc hm : hp} {H : Heap} {locs : List Loc} {ls : Array Slot} (hWc : kW SC Gc hc (lA s) s H locs) (hWm : kW SM Gm hm (lA s) s H locs) (hl : lv_has ls 4 [(0, .ref b), (1, .ref (Gc.2.2 0)), (2, .ref (Gm.2.2 0)), (3, .int x3)]) (hq : w_law_518 L xs X x3 hc hm) : W p l e room_1 s m #[Value.ref b] below meth c H locs 600000 7302250 (lw_Z below #[Value.ref b] s) (F0 m 518 ls []) := by
  obtain ⟨hx, hb, hr, hml, hown, hts, hX0, hbl, hlocks, hgv⟩ := id C0
  have hbA : ¬ lA s b := Nat.not_le.mpr hbl
  unfold w_law_518 at hq
  refine lv_aload_n hx hb dL_law_518 rfl (lv_at hl 1 rfl) ?_
  refine lv_aload_n hx hb dL_law_519 rfl (lv_at hl 0 rfl) ?_
  refine lv_iload_n hx hb dL_law_520 rfl (lv_at hl 3 rfl) ?_
  refine lv_iconst (v := 1) hx hb dL_law_521 (by decide) ?_
  refine lv_iadd hx hb dL_law_522 ?_
  refine va_sld hx hb hX0 hbl hbA hWc.2.2 hq.1 dL_law_523 ?_
  have hq := hq.2
  refine lv_aload_n hx hb dL_law_524 rfl (lv_at hl 0 rfl) ?_
  refine lv_iload_n hx hb dL_law_525 rfl (lv_at hl 3 rfl) ?_
  refine lv_iconst (v := 2) hx hb dL_law_526 (by decide) ?_
  refine lv_iadd hx hb dL_law_527 ?_
  refine va_sld hx hb hX0 hbl hbA hWc.2.2 hq.1 dL_law_528 ?_
  have hq := hq.2
  refine lv_if_eq (tgt := 536) hx hb dL_law_529 (by decide) (fun c49 => ?_) (fun c49 => ?_)
  · have hq := hq.1 c49
    refine lv_iconst (v := 0) hx hb dL_law_536 (by decide) ?_
    refine k_li hWc hWm hdis (va_runV (As := [.int (xs (ix (x3 + 1))), .int 0]) (rest := []) ⟨hx, hb, hml, hown, hts⟩ (c_X11_clash l Gc hc (xs (ix (x3 + 1))) 0 _ hq) (cwV 2 hts (gL_V mw846 mw847 mw848 mw2 mw849) rfl rfl rfl (by decide +kernel) ⟨Nat.le_of_ble_eq_true rfl, Nat.le_of_ble_eq_true rfl⟩) (k_preV (hKC hK) hWc (shC_lt rfl (by decide)) (ceC_11 rfl) (q := (RX11, TX11, 11)) rfl) rfl rfl hl.1 rfl (lv_room (Nat.le_of_ble_eq_true rfl)) dL_law_537 ⟨Nat.le_refl _, Nat.le_refl _⟩) (fun r51 h50 H locs hq hWc hWm => ?_)
    refine lv_aload_n hx hb dL_law_540 rfl (lv_at hl 2 rfl) ?_
    refine lv_aload_n hx hb dL_law_541 rfl (lv_at hl 0 rfl) ?_
    refine lv_iload_n hx hb dL_law_542 rfl (lv_at hl 3 rfl) ?_
    refine lv_iconst (v := 1) hx hb dL_law_543 (by decide) ?_
    refine lv_iadd hx hb dL_law_544 ?_
    refine va_sld hx hb hX0 hbl hbA hWc.2.2 hq.1 dL_law_545 ?_
    have hq := hq.2
    refine lv_aload_n hx hb dL_law_546 rfl (lv_at hl 0 rfl) ?_
    refine lv_iload_n hx hb dL_law_547 rfl (lv_at hl 3 rfl) ?_
    refine lv_iconst (v := 2) hx hb dL_law_548 (by decide) ?_
    refine lv_iadd hx hb dL_law_549 ?_
    refine va_sld hx hb hX0 hbl hbA hWc.2.2 hq.1 dL_law_550 ?_
    have hq := hq.2
    refine lv_if_eq (tgt := 558) hx hb dL_law_551 (by decide) (fun c52 => ?_) (fun c52 => ?_)
    · have hq := hq.1 c52
      refine lv_iconst (v := 0) hx hb dL_law_558 (by decide) ?_
      refine k_li hWm hWc (fun q a b => hdis q b a) (va_runV (As := [.int (xs (ix (x3 + 1))), .int 0]) (rest := [.int r51]) ⟨hx, hb, hml, hown, hts⟩ (c_X12_clash l Gm hm (xs (ix (x3 + 1))) 0 _ hq) (cwV 2 hts (gL_V mw874 mw875 mw876 mw5 mw877) rfl rfl rfl (by decide +kernel) ⟨Nat.le_of_ble_eq_true rfl, Nat.le_of_ble_eq_true rfl⟩) (k_preV (hKM hK) hWm (shM_lt rfl (by decide)) (ceM_12 rfl) (q := (RX12, TX12, 73)) rfl) rfl rfl hl.1 rfl (lv_room (Nat.le_of_ble_eq_true rfl)) dL_law_559 ⟨Nat.le_refl _, Nat.le_refl _⟩) (fun r54 h53 H locs hq hWm hWc => ?_)
      refine lv_icmp_eq (tgt := 1798) hx hb dL_law_562 (by decide) (fun c55 => ?_) (fun c55 => ?_)
      · have hq := hq.1 c55
        obtain ⟨x3_56, ex3_56⟩ : ∃ y : Int32, y = x3 + 6 := ⟨_, rfl⟩
        have hq := hq x3_56 ex3_56
        refine lv_iinc (v := x3_56) (lv' := [(3, .int x3_56), (0, .ref b), (1, .ref (Gc.2.2 0)), (2, .ref (Gm.2.2 0))]) hx hb dL_law_1798 hl (k := 3) rfl (by rw [ex3_56]; rfl) (by decide) rfl (fun ls hl => ?_)
        refine lv_goto (tgt := 18) hx hb dL_law_1801 (by decide) ?_
        exact hX _ _ _ _ _ _ hWc hWm (lv_sub hl [1, 2, 3, 0] rfl) hq
      · have hq := hq.2 c55
        refine lv_iconst (v := 0) hx hb dL_law_565 (by decide) ?_
        exact hq.elim
    · have hq := hq.2 c52
      refine lv_iconst (v := 1) hx hb dL_law_554 (by decide) ?_
      refine lv_goto (tgt := 559) hx hb dL_law_555 (by decide) ?_
      refine k_li hWm hWc (fun q a b => hdis q b a) (va_runV (As := [.int (xs (ix (x3 + 1))), .int 1]) (rest := [.int r51]) ⟨hx, hb, hml, hown, hts⟩ (c_X12_clash l Gm hm (xs (ix (x3 + 1))) 1 _ hq) (cwV 2 hts (gL_V mw874 mw875 mw876 mw5 mw877) rfl rfl rfl (by decide +kernel) ⟨Nat.le_of_ble_eq_true rfl, Nat.le_of_ble_eq_true rfl⟩) (k_preV (hKM hK) hWm (shM_lt rfl (by decide)) (ceM_12 rfl) (q := (RX12, TX12, 73)) rfl) rfl rfl hl.1 rfl (lv_room (Nat.le_of_ble_eq_true rfl)) dL_law_559 ⟨Nat.le_refl _, Nat.le_refl _⟩) (fun r58 h57 H locs hq hWm hWc => ?_)
      refine lv_icmp_eq (tgt := 1798) hx hb dL_law_562 (by decide) (fun c59 => ?_) (fun c59 => ?_)
      · have hq := hq.1 c59
        obtain ⟨x3_60, ex3_60⟩ : ∃ y : Int32, y = x3 + 6 := ⟨_, rfl⟩
        have hq := hq x3_60 ex3_60
        refine lv_iinc (v := x3_60) (lv' := [(3, .int x3_60), (0, .ref b), (1, .ref (Gc.2.2 0)), (2, .ref (Gm.2.2 0))]) hx hb dL_law_1798 hl (k := 3) rfl (by rw [ex3_60]; rfl) (by decide) rfl (fun ls hl => ?_)
        refine lv_goto (tgt := 18) hx hb dL_law_1801 (by decide) ?_
        exact hX _ _ _ _ _ _ hWc hWm (lv_sub hl [1, 2, 3, 0] rfl) hq
      · have hq := hq.2 c59
        refine lv_iconst (v := 0) hx hb dL_law_565 (by decide) ?_
        exact hq.elim
  · have hq := hq.2 c49
    refine lv_iconst (v := 1) hx hb dL_law_532 (by decide) ?_
    refine lv_goto (tgt := 537) hx hb dL_law_533 (by decide) ?_
    refine k_li hWc hWm hdis (va_runV (As := [.int (xs (ix (x3 + 1))), .int 1]) (rest := []) ⟨hx, hb, hml, hown, hts⟩ (c_X11_clash l Gc hc (xs (ix (x3 + 1))) 1 _ hq) (cwV 2 hts (gL_V mw846 mw847 mw848 mw2 mw849) rfl rfl rfl (by decide +kernel) ⟨Nat.le_of_ble_eq_true rfl, Nat.le_of_ble_eq_true rfl⟩) (k_preV (hKC hK) hWc (shC_lt rfl (by decide)) (ceC_11 rfl) (q := (RX11, TX11, 11)) rfl) rfl rfl hl.1 rfl (lv_room (Nat.le_of_ble_eq_true rfl)) dL_law_537 ⟨Nat.le_refl _, Nat.le_refl _⟩) (fun r62 h61 H locs hq hWc hWm => ?_)
    refine lv_aload_n hx hb dL_law_540 rfl (lv_at hl 2 rfl) ?_
    refine lv_aload_n hx hb dL_law_541 rfl (lv_at hl 0 rfl) ?_
    refine lv_iload_n hx hb dL_law_542 rfl (lv_at hl 3 rfl) ?_
    refine lv_iconst (v := 1) hx hb dL_law_543 (by decide) ?_
    refine lv_iadd hx hb dL_law_544 ?_
    refine va_sld hx hb hX0 hbl hbA hWc.2.2 hq.1 dL_law_545 ?_
    have hq := hq.2
    refine lv_aload_n hx hb dL_law_546 rfl (lv_at hl 0 rfl) ?_
    refine lv_iload_n hx hb dL_law_547 rfl (lv_at hl 3 rfl) ?_
    refine lv_iconst (v := 2) hx hb dL_law_548 (by decide) ?_
    refine lv_iadd hx hb dL_law_549 ?_
    refine va_sld hx hb hX0 hbl hbA hWc.2.2 hq.1 dL_law_550 ?_
    have hq := hq.2
    refine lv_if_eq (tgt := 558) hx hb dL_law_551 (by decide) (fun c63 => ?_) (fun c63 => ?_)
    · have hq := hq.1 c63
      refine lv_iconst (v := 0) hx hb dL_law_558 (by decide) ?_
      refine k_li hWm hWc (fun q a b => hdis q b a) (va_runV (As := [.int (xs (ix (x3 + 1))), .int 0]) (rest := [.int r62]) ⟨hx, hb, hml, hown, hts⟩ (c_X12_clash l Gm hm (xs (ix (x3 + 1))) 0 _ hq) (cwV 2 hts (gL_V mw874 mw875 mw876 mw5 mw877) rfl rfl rfl (by decide +kernel) ⟨Nat.le_of_ble_eq_true rfl, Nat.le_of_ble_eq_true rfl⟩) (k_preV (hKM hK) hWm (shM_lt rfl (by decide)) (ceM_12 rfl) (q := (RX12, TX12, 73)) rfl) rfl rfl hl.1 rfl (lv_room (Nat.le_of_ble_eq_true rfl)) dL_law_559 ⟨Nat.le_refl _, Nat.le_refl _⟩) (fun r65 h64 H locs hq hWm hWc => ?_)
      refine lv_icmp_eq (tgt := 1798) hx hb dL_law_562 (by decide) (fun c66 => ?_) (fun c66 => ?_)
      · have hq := hq.1 c66
        obtain ⟨x3_67, ex3_67⟩ : ∃ y : Int32, y = x3 + 6 := ⟨_, rfl⟩
        have hq := hq x3_67 ex3_67
        refine lv_iinc (v := x3_67) (lv' := [(3, .int x3_67), (0, .ref b), (1, .ref (Gc.2.2 0)), (2, .ref (Gm.2.2 0))]) hx hb dL_law_1798 hl (k := 3) rfl (by rw [ex3_67]; rfl) (by decide) rfl (fun ls hl => ?_)
        refine lv_goto (tgt := 18) hx hb dL_law_1801 (by decide) ?_
        exact hX _ _ _ _ _ _ hWc hWm (lv_sub hl [1, 2, 3, 0] rfl) hq
      · have hq := hq.2 c66
        refine lv_iconst (v := 0) hx hb dL_law_565 (by decide) ?_
        exact hq.elim
    · have hq := hq.2 c63
      refine lv_iconst (v := 1) hx hb dL_law_554 (by decide) ?_
      refine lv_goto (tgt := 559) hx hb dL_law_555 (by decide) ?_
      refine k_li hWm hWc (fun q a b => hdis q b a) (va_runV (As := [.int (xs (ix (x3 + 1))), .int 1]) (rest := [.int r62]) ⟨hx, hb, hml, hown, hts⟩ (c_X12_clash l Gm hm (xs (ix (x3 + 1))) 1 _ hq) (cwV 2 hts (gL_V mw874 mw875 mw876 mw5 mw877) rfl rfl rfl (by decide +kernel) ⟨Nat.le_of_ble_eq_true rfl, Nat.le_of_ble_eq_true rfl⟩) (k_preV (hKM hK) hWm (shM_lt rfl (by decide)) (ceM_12 rfl) (q := (RX12, TX12, 73)) rfl) rfl rfl hl.1 rfl (lv_room (Nat.le_of_ble_eq_true rfl)) dL_law_559 ⟨Nat.le_refl _, Nat.le_refl _⟩) (fun r69 h68 H locs hq hWm hWc => ?_)
      refine lv_icmp_eq (tgt := 1798) hx hb dL_law_562 (by decide) (fun c70 => ?_) (fun c70 => ?_)
      · have hq := hq.1 c70
        obtain ⟨x3_71, ex3_71⟩ : ∃ y : Int32, y = x3 + 6 := ⟨_, rfl⟩
        have hq := hq x3_71 ex3_71
        refine lv_iinc (v := x3_71) (lv' := [(3, .int x3_71), (0, .ref b), (1, .ref (Gc.2.2 0)), (2, .ref (Gm.2.2 0))]) hx hb dL_law_1798 hl (k := 3) rfl (by rw [ex3_71]; rfl) (by decide) rfl (fun ls hl => ?_)
        refine lv_goto (tgt := 18) hx hb dL_law_1801 (by decide) ?_
        exact hX _ _ _ _ _ _ hWc hWm (lv_sub hl [1, 2, 3, 0] rfl) hq
      · have hq := hq.2 c70
        refine lv_iconst (v := 0) hx hb dL_law_565 (by decide) ?_
        exact hq.elim
theorem k_law_567 {p : Program} {l : Launch} {e : Env} {s : State} {m : MethodId} {below : List Frame} {meth : Method} {c : Code} {b L : Nat} {xs : Nat → Int32} {Gc Gm : wG} (hL : L ≤ 3072) (C0 : lw_At p s m meth c b L xs) (hK : kK Gc s ∧ kK Gm s) (hdis : ∀ q, aS SC Gc q → aS SM Gm q → False) {X : Int32 × hp × hp → Prop} (hX : ∀ (x3 : Int32) (hc hm : hp) (H : Heap) (locs : List Loc) (ls : Array Slot), kW SC Gc hc (lA s) s H locs → kW SM Gm hm (lA s) s H locs → lv_has ls 4 [(0, .ref b), (1, .ref (Gc.2.2 0)), (2, .ref (Gm.2.2 0)), (3, .int x3)] → X (x3, hc, hm) → W p l e room_1 s m #[Value.ref b] below meth c H locs 600000 7302250 (lw_Z below #[Value.ref b] s) (F0 m 18 ls [])) {x3 : Int32} {hc hm : hp} {H : Heap} {locs : List Loc} {ls : Array Slot} (hWc : kW SC Gc hc (lA s) s H locs) (hWm : kW SM Gm hm (lA s) s H locs) (hl : lv_has ls 4 [(0, .ref b), (1, .ref (Gc.2.2 0)), (2, .ref (Gm.2.2 0)), (3, .int x3)]) (hq : w_law_567 L xs X x3 hc hm) : W p l e room_1 s m #[Value.ref b] below meth c H locs 600000 7302250 (lw_Z below #[Value.ref b] s) (F0 m 567 ls []) := by
  obtain ⟨hx, hb, hr, hml, hown, hts, hX0, hbl, hlocks, hgv⟩ := id C0
  have hbA : ¬ lA s b := Nat.not_le.mpr hbl
  unfold w_law_567 at hq
  refine lv_aload_n hx hb dL_law_567 rfl (lv_at hl 1 rfl) ?_
  refine lv_aload_n hx hb dL_law_568 rfl (lv_at hl 0 rfl) ?_
  refine lv_iload_n hx hb dL_law_569 rfl (lv_at hl 3 rfl) ?_
  refine lv_iconst (v := 1) hx hb dL_law_570 (by decide) ?_
  refine lv_iadd hx hb dL_law_571 ?_
  refine va_sld hx hb hX0 hbl hbA hWc.2.2 hq.1 dL_law_572 ?_
  have hq := hq.2
  refine lv_aload_n hx hb dL_law_573 rfl (lv_at hl 0 rfl) ?_
  refine lv_iload_n hx hb dL_law_574 rfl (lv_at hl 3 rfl) ?_
  refine lv_iconst (v := 2) hx hb dL_law_575 (by decide) ?_
  refine lv_iadd hx hb dL_law_576 ?_
  refine va_sld hx hb hX0 hbl hbA hWc.2.2 hq.1 dL_law_577 ?_
  have hq := hq.2
  refine k_li hWc hWm hdis (va_runV (As := [.int (xs (ix (x3 + 1))), .int (xs (ix (x3 + 2)))]) (rest := []) ⟨hx, hb, hml, hown, hts⟩ (c_X11_world l Gc hc (xs (ix (x3 + 1))) (xs (ix (x3 + 2))) _ hq) (cwV 2 hts (gL_V mw906 mw907 mw908 mw2 mw909) rfl rfl rfl (by decide +kernel) ⟨Nat.le_of_ble_eq_true rfl, Nat.le_of_ble_eq_true rfl⟩) (k_preV (hKC hK) hWc (shC_lt rfl (by decide)) (ceC_11 rfl) (q := (RX11, TX11, 11)) rfl) rfl rfl hl.1 rfl (lv_room (Nat.le_of_ble_eq_true rfl)) dL_law_578 ⟨Nat.le_refl _, Nat.le_refl _⟩) (fun r73 h72 H locs hq hWc hWm => ?_)
  rw [hq.1] at hWc
  have hq := hq.2
  refine lv_aload_n hx hb dL_law_581 rfl (lv_at hl 2 rfl) ?_
  refine lv_aload_n hx hb dL_law_582 rfl (lv_at hl 0 rfl) ?_
  refine lv_iload_n hx hb dL_law_583 rfl (lv_at hl 3 rfl) ?_
  refine lv_iconst (v := 1) hx hb dL_law_584 (by decide) ?_
  refine lv_iadd hx hb dL_law_585 ?_
  refine va_sld hx hb hX0 hbl hbA hWc.2.2 hq.1 dL_law_586 ?_
  have hq := hq.2
  refine lv_aload_n hx hb dL_law_587 rfl (lv_at hl 0 rfl) ?_
  refine lv_iload_n hx hb dL_law_588 rfl (lv_at hl 3 rfl) ?_
  refine lv_iconst (v := 2) hx hb dL_law_589 (by decide) ?_
  refine lv_iadd hx hb dL_law_590 ?_
  refine va_sld hx hb hX0 hbl hbA hWc.2.2 hq.1 dL_law_591 ?_
  have hq := hq.2
  refine k_li hWm hWc (fun q a b => hdis q b a) (va_runV (As := [.int (xs (ix (x3 + 1))), .int (xs (ix (x3 + 2)))]) (rest := [.int r73]) ⟨hx, hb, hml, hown, hts⟩ (c_X12_world l Gm hm (xs (ix (x3 + 1))) (xs (ix (x3 + 2))) _ hq) (cwV 2 hts (gL_V mw921 mw922 mw923 mw5 mw924) rfl rfl rfl (by decide +kernel) ⟨Nat.le_of_ble_eq_true rfl, Nat.le_of_ble_eq_true rfl⟩) (k_preV (hKM hK) hWm (shM_lt rfl (by decide)) (ceM_12 rfl) (q := (RX12, TX12, 73)) rfl) rfl rfl hl.1 rfl (lv_room (Nat.le_of_ble_eq_true rfl)) dL_law_592 ⟨Nat.le_refl _, Nat.le_refl _⟩) (fun r75 h74 H locs hq hWm hWc => ?_)
  rw [hq.1] at hWm
  have hq := hq.2
  refine lv_icmp_eq (tgt := 1798) hx hb dL_law_595 (by decide) (fun c76 => ?_) (fun c76 => ?_)
  · have hq := hq.1 c76
    obtain ⟨x3_77, ex3_77⟩ : ∃ y : Int32, y = x3 + 6 := ⟨_, rfl⟩
    have hq := hq x3_77 ex3_77
    refine lv_iinc (v := x3_77) (lv' := [(3, .int x3_77), (0, .ref b), (1, .ref (Gc.2.2 0)), (2, .ref (Gm.2.2 0))]) hx hb dL_law_1798 hl (k := 3) rfl (by rw [ex3_77]; rfl) (by decide) rfl (fun ls hl => ?_)
    refine lv_goto (tgt := 18) hx hb dL_law_1801 (by decide) ?_
    exact hX _ _ _ _ _ _ hWc hWm (lv_sub hl [1, 2, 3, 0] rfl) hq
  · have hq := hq.2 c76
    refine lv_iconst (v := 0) hx hb dL_law_598 (by decide) ?_
    exact hq.elim
theorem k_law_600 {p : Program} {l : Launch} {e : Env} {s : State} {m : MethodId} {below : List Frame} {meth : Method} {c : Code} {b L : Nat} {xs : Nat → Int32} {Gc Gm : wG} (hL : L ≤ 3072) (C0 : lw_At p s m meth c b L xs) (hK : kK Gc s ∧ kK Gm s) (hdis : ∀ q, aS SC Gc q → aS SM Gm q → False) {X : Int32 × hp × hp → Prop} (hX : ∀ (x3 : Int32) (hc hm : hp) (H : Heap) (locs : List Loc) (ls : Array Slot), kW SC Gc hc (lA s) s H locs → kW SM Gm hm (lA s) s H locs → lv_has ls 4 [(0, .ref b), (1, .ref (Gc.2.2 0)), (2, .ref (Gm.2.2 0)), (3, .int x3)] → X (x3, hc, hm) → W p l e room_1 s m #[Value.ref b] below meth c H locs 600000 7302250 (lw_Z below #[Value.ref b] s) (F0 m 18 ls [])) {x3 : Int32} {hc hm : hp} {H : Heap} {locs : List Loc} {ls : Array Slot} (hWc : kW SC Gc hc (lA s) s H locs) (hWm : kW SM Gm hm (lA s) s H locs) (hl : lv_has ls 4 [(0, .ref b), (1, .ref (Gc.2.2 0)), (2, .ref (Gm.2.2 0)), (3, .int x3)]) (hq : w_law_600 L xs X x3 hc hm) : W p l e room_1 s m #[Value.ref b] below meth c H locs 600000 7302250 (lw_Z below #[Value.ref b] s) (F0 m 600 ls []) := by
  obtain ⟨hx, hb, hr, hml, hown, hts, hX0, hbl, hlocks, hgv⟩ := id C0
  have hbA : ¬ lA s b := Nat.not_le.mpr hbl
  unfold w_law_600 at hq
  refine lv_aload_n hx hb dL_law_600 rfl (lv_at hl 1 rfl) ?_
  refine lv_aload_n hx hb dL_law_601 rfl (lv_at hl 0 rfl) ?_
  refine lv_iload_n hx hb dL_law_602 rfl (lv_at hl 3 rfl) ?_
  refine lv_iconst (v := 1) hx hb dL_law_603 (by decide) ?_
  refine lv_iadd hx hb dL_law_604 ?_
  refine va_sld hx hb hX0 hbl hbA hWc.2.2 hq.1 dL_law_605 ?_
  have hq := hq.2
  refine lv_aload_n hx hb dL_law_606 rfl (lv_at hl 0 rfl) ?_
  refine lv_iload_n hx hb dL_law_607 rfl (lv_at hl 3 rfl) ?_
  refine lv_iconst (v := 2) hx hb dL_law_608 (by decide) ?_
  refine lv_iadd hx hb dL_law_609 ?_
  refine va_sld hx hb hX0 hbl hbA hWc.2.2 hq.1 dL_law_610 ?_
  have hq := hq.2
  refine lv_i2l (v := (xs (ix (x3 + 2))).toInt64) hx hb dL_law_611 rfl ?_
  refine lv_bipush (v := 32) hx hb dL_law_612 (by decide) ?_
  refine k_lshl hx hb dL_law_614 ?_
  refine lv_aload_n hx hb dL_law_615 rfl (lv_at hl 0 rfl) ?_
  refine lv_iload_n hx hb dL_law_616 rfl (lv_at hl 3 rfl) ?_
  refine lv_iconst (v := 3) hx hb dL_law_617 (by decide) ?_
  refine lv_iadd hx hb dL_law_618 ?_
  refine va_sld hx hb hX0 hbl hbA hWc.2.2 hq.1 dL_law_619 ?_
  have hq := hq.2
  refine lv_i2l (v := (xs (ix (x3 + 3))).toInt64) hx hb dL_law_620 rfl ?_
  refine lv_ldc2 (v := 4294967295) hx hb hown (hts _ (twU _ mw6)) dL_law_621 ?_
  refine lv_land hx hb dL_law_624 ?_
  refine lv_lor hx hb dL_law_625 ?_
  refine k_li hWc hWm hdis (va_runV (As := [.int (xs (ix (x3 + 1))), .long ((lshl ((xs (ix (x3 + 2))).toInt64) 32) ||| (((xs (ix (x3 + 3))).toInt64) &&& 4294967295))]) (rest := []) ⟨hx, hb, hml, hown, hts⟩ (c_X11_tell l Gc hc (xs (ix (x3 + 1))) ((lshl ((xs (ix (x3 + 2))).toInt64) 32) ||| (((xs (ix (x3 + 3))).toInt64) &&& 4294967295)) _ hq) (cwV 2 hts (gL_V mw925 mw926 mw927 mw2 mw928) rfl rfl rfl (by decide +kernel) ⟨Nat.le_of_ble_eq_true rfl, Nat.le_of_ble_eq_true rfl⟩) (k_preV (hKC hK) hWc (shC_lt rfl (by decide)) (ceC_11 rfl) (q := (RX11, TX11, 11)) rfl) rfl rfl hl.1 rfl (lv_room (Nat.le_of_ble_eq_true rfl)) dL_law_626 ⟨Nat.le_refl _, Nat.le_refl _⟩) (fun r79 h78 H locs hq hWc hWm => ?_)
  refine lv_aload_n hx hb dL_law_629 rfl (lv_at hl 2 rfl) ?_
  refine lv_aload_n hx hb dL_law_630 rfl (lv_at hl 0 rfl) ?_
  refine lv_iload_n hx hb dL_law_631 rfl (lv_at hl 3 rfl) ?_
  refine lv_iconst (v := 1) hx hb dL_law_632 (by decide) ?_
  refine lv_iadd hx hb dL_law_633 ?_
  refine va_sld hx hb hX0 hbl hbA hWc.2.2 hq.1 dL_law_634 ?_
  have hq := hq.2
  refine lv_aload_n hx hb dL_law_635 rfl (lv_at hl 0 rfl) ?_
  refine lv_iload_n hx hb dL_law_636 rfl (lv_at hl 3 rfl) ?_
  refine lv_iconst (v := 2) hx hb dL_law_637 (by decide) ?_
  refine lv_iadd hx hb dL_law_638 ?_
  refine va_sld hx hb hX0 hbl hbA hWc.2.2 hq.1 dL_law_639 ?_
  have hq := hq.2
  refine lv_i2l (v := (xs (ix (x3 + 2))).toInt64) hx hb dL_law_640 rfl ?_
  refine lv_bipush (v := 32) hx hb dL_law_641 (by decide) ?_
  refine k_lshl hx hb dL_law_643 ?_
  refine lv_aload_n hx hb dL_law_644 rfl (lv_at hl 0 rfl) ?_
  refine lv_iload_n hx hb dL_law_645 rfl (lv_at hl 3 rfl) ?_
  refine lv_iconst (v := 3) hx hb dL_law_646 (by decide) ?_
  refine lv_iadd hx hb dL_law_647 ?_
  refine va_sld hx hb hX0 hbl hbA hWc.2.2 hq.1 dL_law_648 ?_
  have hq := hq.2
  refine lv_i2l (v := (xs (ix (x3 + 3))).toInt64) hx hb dL_law_649 rfl ?_
  refine lv_ldc2 (v := 4294967295) hx hb hown (hts _ (twU _ mw6)) dL_law_650 ?_
  refine lv_land hx hb dL_law_653 ?_
  refine lv_lor hx hb dL_law_654 ?_
  refine k_li hWm hWc (fun q a b => hdis q b a) (va_runV (As := [.int (xs (ix (x3 + 1))), .long ((lshl ((xs (ix (x3 + 2))).toInt64) 32) ||| (((xs (ix (x3 + 3))).toInt64) &&& 4294967295))]) (rest := [.int r79]) ⟨hx, hb, hml, hown, hts⟩ (c_X12_tell_ l Gm hm (xs (ix (x3 + 1))) ((lshl ((xs (ix (x3 + 2))).toInt64) 32) ||| (((xs (ix (x3 + 3))).toInt64) &&& 4294967295)) _ hq) (cwV 2 hts (gL_V mw942 mw943 mw944 mw5 mw945) rfl rfl rfl (by decide +kernel) ⟨Nat.le_of_ble_eq_true rfl, Nat.le_of_ble_eq_true rfl⟩) (k_preV (hKM hK) hWm (shM_lt rfl (by decide)) (ceM_12 rfl) (q := (RX12, TX12, 73)) rfl) rfl rfl hl.1 rfl (lv_room (Nat.le_of_ble_eq_true rfl)) dL_law_655 ⟨Nat.le_refl _, Nat.le_refl _⟩) (fun r81 h80 H locs hq hWm hWc => ?_)
  refine lv_icmp_eq (tgt := 1798) hx hb dL_law_658 (by decide) (fun c82 => ?_) (fun c82 => ?_)
  · have hq := hq.1 c82
    obtain ⟨x3_83, ex3_83⟩ : ∃ y : Int32, y = x3 + 6 := ⟨_, rfl⟩
    have hq := hq x3_83 ex3_83
    refine lv_iinc (v := x3_83) (lv' := [(3, .int x3_83), (0, .ref b), (1, .ref (Gc.2.2 0)), (2, .ref (Gm.2.2 0))]) hx hb dL_law_1798 hl (k := 3) rfl (by rw [ex3_83]; rfl) (by decide) rfl (fun ls hl => ?_)
    refine lv_goto (tgt := 18) hx hb dL_law_1801 (by decide) ?_
    exact hX _ _ _ _ _ _ hWc hWm (lv_sub hl [1, 2, 3, 0] rfl) hq
  · have hq := hq.2 c82
    refine lv_iconst (v := 0) hx hb dL_law_661 (by decide) ?_
    exact hq.elim
theorem k_law_663 {p : Program} {l : Launch} {e : Env} {s : State} {m : MethodId} {below : List Frame} {meth : Method} {c : Code} {b L : Nat} {xs : Nat → Int32} {Gc Gm : wG} (hL : L ≤ 3072) (C0 : lw_At p s m meth c b L xs) (hK : kK Gc s ∧ kK Gm s) (hdis : ∀ q, aS SC Gc q → aS SM Gm q → False) {X : Int32 × hp × hp → Prop} (hX : ∀ (x3 : Int32) (hc hm : hp) (H : Heap) (locs : List Loc) (ls : Array Slot), kW SC Gc hc (lA s) s H locs → kW SM Gm hm (lA s) s H locs → lv_has ls 4 [(0, .ref b), (1, .ref (Gc.2.2 0)), (2, .ref (Gm.2.2 0)), (3, .int x3)] → X (x3, hc, hm) → W p l e room_1 s m #[Value.ref b] below meth c H locs 600000 7302250 (lw_Z below #[Value.ref b] s) (F0 m 18 ls [])) {x3 : Int32} {hc hm : hp} {H : Heap} {locs : List Loc} {ls : Array Slot} (hWc : kW SC Gc hc (lA s) s H locs) (hWm : kW SM Gm hm (lA s) s H locs) (hl : lv_has ls 4 [(0, .ref b), (1, .ref (Gc.2.2 0)), (2, .ref (Gm.2.2 0)), (3, .int x3)]) (hq : w_law_663 L xs X x3 hc hm) : W p l e room_1 s m #[Value.ref b] below meth c H locs 600000 7302250 (lw_Z below #[Value.ref b] s) (F0 m 663 ls []) := by
  obtain ⟨hx, hb, hr, hml, hown, hts, hX0, hbl, hlocks, hgv⟩ := id C0
  have hbA : ¬ lA s b := Nat.not_le.mpr hbl
  unfold w_law_663 at hq
  refine lv_aload_n hx hb dL_law_663 rfl (lv_at hl 1 rfl) ?_
  refine k_li hWc hWm hdis (va_runV (As := []) (rest := []) ⟨hx, hb, hml, hown, hts⟩ (c_X11_forget l Gc hc _ hq) (cwV 0 hts (gL_V mw950 mw951 mw952 mw2 mw953) rfl rfl rfl (by decide +kernel) ⟨Nat.le_of_ble_eq_true rfl, Nat.le_of_ble_eq_true rfl⟩) (k_preV (hKC hK) hWc (shC_lt rfl (by decide)) (ceC_11 rfl) (q := (RX11, TX11, 11)) rfl) rfl rfl hl.1 rfl (lv_room (Nat.le_of_ble_eq_true rfl)) dL_law_664 ⟨Nat.le_refl _, Nat.le_refl _⟩) (fun r85 h84 H locs hq hWc hWm => ?_)
  refine lv_aload_n hx hb dL_law_667 rfl (lv_at hl 2 rfl) ?_
  refine k_li hWm hWc (fun q a b => hdis q b a) (va_runV (As := []) (rest := [.int r85]) ⟨hx, hb, hml, hown, hts⟩ (c_X12_forget l Gm hm _ hq) (cwV 0 hts (gL_V mw954 mw955 mw956 mw5 mw957) rfl rfl rfl (by decide +kernel) ⟨Nat.le_of_ble_eq_true rfl, Nat.le_of_ble_eq_true rfl⟩) (k_preV (hKM hK) hWm (shM_lt rfl (by decide)) (ceM_12 rfl) (q := (RX12, TX12, 73)) rfl) rfl rfl hl.1 rfl (lv_room (Nat.le_of_ble_eq_true rfl)) dL_law_668 ⟨Nat.le_refl _, Nat.le_refl _⟩) (fun r87 h86 H locs hq hWm hWc => ?_)
  refine lv_icmp_eq (tgt := 1798) hx hb dL_law_671 (by decide) (fun c88 => ?_) (fun c88 => ?_)
  · have hq := hq.1 c88
    obtain ⟨x3_89, ex3_89⟩ : ∃ y : Int32, y = x3 + 6 := ⟨_, rfl⟩
    have hq := hq x3_89 ex3_89
    refine lv_iinc (v := x3_89) (lv' := [(3, .int x3_89), (0, .ref b), (1, .ref (Gc.2.2 0)), (2, .ref (Gm.2.2 0))]) hx hb dL_law_1798 hl (k := 3) rfl (by rw [ex3_89]; rfl) (by decide) rfl (fun ls hl => ?_)
    refine lv_goto (tgt := 18) hx hb dL_law_1801 (by decide) ?_
    exact hX _ _ _ _ _ _ hWc hWm (lv_sub hl [1, 2, 3, 0] rfl) hq
  · have hq := hq.2 c88
    refine lv_iconst (v := 0) hx hb dL_law_674 (by decide) ?_
    exact hq.elim
theorem k_law_676 {p : Program} {l : Launch} {e : Env} {s : State} {m : MethodId} {below : List Frame} {meth : Method} {c : Code} {b L : Nat} {xs : Nat → Int32} {Gc Gm : wG} (hL : L ≤ 3072) (C0 : lw_At p s m meth c b L xs) (hK : kK Gc s ∧ kK Gm s) (hdis : ∀ q, aS SC Gc q → aS SM Gm q → False) {X : Int32 × hp × hp → Prop} (hX : ∀ (x3 : Int32) (hc hm : hp) (H : Heap) (locs : List Loc) (ls : Array Slot), kW SC Gc hc (lA s) s H locs → kW SM Gm hm (lA s) s H locs → lv_has ls 4 [(0, .ref b), (1, .ref (Gc.2.2 0)), (2, .ref (Gm.2.2 0)), (3, .int x3)] → X (x3, hc, hm) → W p l e room_1 s m #[Value.ref b] below meth c H locs 600000 7302250 (lw_Z below #[Value.ref b] s) (F0 m 18 ls [])) {x3 : Int32} {hc hm : hp} {H : Heap} {locs : List Loc} {ls : Array Slot} (hWc : kW SC Gc hc (lA s) s H locs) (hWm : kW SM Gm hm (lA s) s H locs) (hl : lv_has ls 4 [(0, .ref b), (1, .ref (Gc.2.2 0)), (2, .ref (Gm.2.2 0)), (3, .int x3)]) (hq : w_law_676 L xs X x3 hc hm) : W p l e room_1 s m #[Value.ref b] below meth c H locs 600000 7302250 (lw_Z below #[Value.ref b] s) (F0 m 676 ls []) := by
  obtain ⟨hx, hb, hr, hml, hown, hts, hX0, hbl, hlocks, hgv⟩ := id C0
  have hbA : ¬ lA s b := Nat.not_le.mpr hbl
  unfold w_law_676 at hq
  refine lv_aload_n hx hb dL_law_676 rfl (lv_at hl 1 rfl) ?_
  refine lv_aload_n hx hb dL_law_677 rfl (lv_at hl 0 rfl) ?_
  refine lv_iload_n hx hb dL_law_678 rfl (lv_at hl 3 rfl) ?_
  refine lv_iconst (v := 1) hx hb dL_law_679 (by decide) ?_
  refine lv_iadd hx hb dL_law_680 ?_
  refine va_sld hx hb hX0 hbl hbA hWc.2.2 hq.1 dL_law_681 ?_
  have hq := hq.2
  refine lv_aload_n hx hb dL_law_682 rfl (lv_at hl 0 rfl) ?_
  refine lv_iload_n hx hb dL_law_683 rfl (lv_at hl 3 rfl) ?_
  refine lv_iconst (v := 2) hx hb dL_law_684 (by decide) ?_
  refine lv_iadd hx hb dL_law_685 ?_
  refine va_sld hx hb hX0 hbl hbA hWc.2.2 hq.1 dL_law_686 ?_
  have hq := hq.2
  refine lv_aload_n hx hb dL_law_687 rfl (lv_at hl 0 rfl) ?_
  refine lv_iload_n hx hb dL_law_688 rfl (lv_at hl 3 rfl) ?_
  refine lv_iconst (v := 3) hx hb dL_law_689 (by decide) ?_
  refine lv_iadd hx hb dL_law_690 ?_
  refine va_sld hx hb hX0 hbl hbA hWc.2.2 hq.1 dL_law_691 ?_
  have hq := hq.2
  refine lv_aload_n hx hb dL_law_692 rfl (lv_at hl 0 rfl) ?_
  refine lv_iload_n hx hb dL_law_693 rfl (lv_at hl 3 rfl) ?_
  refine lv_iconst (v := 4) hx hb dL_law_694 (by decide) ?_
  refine lv_iadd hx hb dL_law_695 ?_
  refine va_sld hx hb hX0 hbl hbA hWc.2.2 hq.1 dL_law_696 ?_
  have hq := hq.2
  refine k_li hWc hWm hdis (va_runV (As := [.int (xs (ix (x3 + 1))), .int (xs (ix (x3 + 2))), .int (xs (ix (x3 + 3))), .int (xs (ix (x3 + 4)))]) (rest := []) ⟨hx, hb, hml, hown, hts⟩ (c_X11_fits l Gc hc (xs (ix (x3 + 1))) (xs (ix (x3 + 2))) (xs (ix (x3 + 3))) (xs (ix (x3 + 4))) _ hq) (cwV 4 hts (gL_V mw958 mw959 mw960 mw2 mw961) rfl rfl rfl (by decide +kernel) ⟨Nat.le_of_ble_eq_true rfl, Nat.le_of_ble_eq_true rfl⟩) (k_preV (hKC hK) hWc (shC_lt rfl (by decide)) (ceC_11 rfl) (q := (RX11, TX11, 11)) rfl) rfl rfl hl.1 rfl (lv_room (Nat.le_of_ble_eq_true rfl)) dL_law_697 ⟨Nat.le_refl _, Nat.le_refl _⟩) (fun r91 h90 H locs hq hWc hWm => ?_)
  refine lv_aload_n hx hb dL_law_700 rfl (lv_at hl 2 rfl) ?_
  refine lv_aload_n hx hb dL_law_701 rfl (lv_at hl 0 rfl) ?_
  refine lv_iload_n hx hb dL_law_702 rfl (lv_at hl 3 rfl) ?_
  refine lv_iconst (v := 1) hx hb dL_law_703 (by decide) ?_
  refine lv_iadd hx hb dL_law_704 ?_
  refine va_sld hx hb hX0 hbl hbA hWc.2.2 hq.1 dL_law_705 ?_
  have hq := hq.2
  refine lv_aload_n hx hb dL_law_706 rfl (lv_at hl 0 rfl) ?_
  refine lv_iload_n hx hb dL_law_707 rfl (lv_at hl 3 rfl) ?_
  refine lv_iconst (v := 2) hx hb dL_law_708 (by decide) ?_
  refine lv_iadd hx hb dL_law_709 ?_
  refine va_sld hx hb hX0 hbl hbA hWc.2.2 hq.1 dL_law_710 ?_
  have hq := hq.2
  refine lv_aload_n hx hb dL_law_711 rfl (lv_at hl 0 rfl) ?_
  refine lv_iload_n hx hb dL_law_712 rfl (lv_at hl 3 rfl) ?_
  refine lv_iconst (v := 3) hx hb dL_law_713 (by decide) ?_
  refine lv_iadd hx hb dL_law_714 ?_
  refine va_sld hx hb hX0 hbl hbA hWc.2.2 hq.1 dL_law_715 ?_
  have hq := hq.2
  refine lv_aload_n hx hb dL_law_716 rfl (lv_at hl 0 rfl) ?_
  refine lv_iload_n hx hb dL_law_717 rfl (lv_at hl 3 rfl) ?_
  refine lv_iconst (v := 4) hx hb dL_law_718 (by decide) ?_
  refine lv_iadd hx hb dL_law_719 ?_
  refine va_sld hx hb hX0 hbl hbA hWc.2.2 hq.1 dL_law_720 ?_
  have hq := hq.2
  refine k_li hWm hWc (fun q a b => hdis q b a) (va_runV (As := [.int (xs (ix (x3 + 1))), .int (xs (ix (x3 + 2))), .int (xs (ix (x3 + 3))), .int (xs (ix (x3 + 4)))]) (rest := [.int r91]) ⟨hx, hb, hml, hown, hts⟩ (c_X12_fits l Gm hm (xs (ix (x3 + 1))) (xs (ix (x3 + 2))) (xs (ix (x3 + 3))) (xs (ix (x3 + 4))) _ hq) (cwV 4 hts (gL_V mw984 mw985 mw986 mw5 mw987) rfl rfl rfl (by decide +kernel) ⟨Nat.le_of_ble_eq_true rfl, Nat.le_of_ble_eq_true rfl⟩) (k_preV (hKM hK) hWm (shM_lt rfl (by decide)) (ceM_12 rfl) (q := (RX12, TX12, 73)) rfl) rfl rfl hl.1 rfl (lv_room (Nat.le_of_ble_eq_true rfl)) dL_law_721 ⟨Nat.le_refl _, Nat.le_refl _⟩) (fun r93 h92 H locs hq hWm hWc => ?_)
  refine lv_icmp_eq (tgt := 1798) hx hb dL_law_724 (by decide) (fun c94 => ?_) (fun c94 => ?_)
  · have hq := hq.1 c94
    obtain ⟨x3_95, ex3_95⟩ : ∃ y : Int32, y = x3 + 6 := ⟨_, rfl⟩
    have hq := hq x3_95 ex3_95
    refine lv_iinc (v := x3_95) (lv' := [(3, .int x3_95), (0, .ref b), (1, .ref (Gc.2.2 0)), (2, .ref (Gm.2.2 0))]) hx hb dL_law_1798 hl (k := 3) rfl (by rw [ex3_95]; rfl) (by decide) rfl (fun ls hl => ?_)
    refine lv_goto (tgt := 18) hx hb dL_law_1801 (by decide) ?_
    exact hX _ _ _ _ _ _ hWc hWm (lv_sub hl [1, 2, 3, 0] rfl) hq
  · have hq := hq.2 c94
    refine lv_iconst (v := 0) hx hb dL_law_727 (by decide) ?_
    exact hq.elim
theorem k_law_729 {p : Program} {l : Launch} {e : Env} {s : State} {m : MethodId} {below : List Frame} {meth : Method} {c : Code} {b L : Nat} {xs : Nat → Int32} {Gc Gm : wG} (hL : L ≤ 3072) (C0 : lw_At p s m meth c b L xs) (hK : kK Gc s ∧ kK Gm s) (hdis : ∀ q, aS SC Gc q → aS SM Gm q → False) {X : Int32 × hp × hp → Prop} (hX : ∀ (x3 : Int32) (hc hm : hp) (H : Heap) (locs : List Loc) (ls : Array Slot), kW SC Gc hc (lA s) s H locs → kW SM Gm hm (lA s) s H locs → lv_has ls 4 [(0, .ref b), (1, .ref (Gc.2.2 0)), (2, .ref (Gm.2.2 0)), (3, .int x3)] → X (x3, hc, hm) → W p l e room_1 s m #[Value.ref b] below meth c H locs 600000 7302250 (lw_Z below #[Value.ref b] s) (F0 m 18 ls [])) {x3 : Int32} {hc hm : hp} {H : Heap} {locs : List Loc} {ls : Array Slot} (hWc : kW SC Gc hc (lA s) s H locs) (hWm : kW SM Gm hm (lA s) s H locs) (hl : lv_has ls 4 [(0, .ref b), (1, .ref (Gc.2.2 0)), (2, .ref (Gm.2.2 0)), (3, .int x3)]) (hq : w_law_729 L xs X x3 hc hm) : W p l e room_1 s m #[Value.ref b] below meth c H locs 600000 7302250 (lw_Z below #[Value.ref b] s) (F0 m 729 ls []) := by
  obtain ⟨hx, hb, hr, hml, hown, hts, hX0, hbl, hlocks, hgv⟩ := id C0
  have hbA : ¬ lA s b := Nat.not_le.mpr hbl
  unfold w_law_729 at hq
  refine lv_aload_n hx hb dL_law_729 rfl (lv_at hl 1 rfl) ?_
  refine lv_aload_n hx hb dL_law_730 rfl (lv_at hl 0 rfl) ?_
  refine lv_iload_n hx hb dL_law_731 rfl (lv_at hl 3 rfl) ?_
  refine lv_iconst (v := 1) hx hb dL_law_732 (by decide) ?_
  refine lv_iadd hx hb dL_law_733 ?_
  refine va_sld hx hb hX0 hbl hbA hWc.2.2 hq.1 dL_law_734 ?_
  have hq := hq.2
  refine lv_aload_n hx hb dL_law_735 rfl (lv_at hl 0 rfl) ?_
  refine lv_iload_n hx hb dL_law_736 rfl (lv_at hl 3 rfl) ?_
  refine lv_iconst (v := 2) hx hb dL_law_737 (by decide) ?_
  refine lv_iadd hx hb dL_law_738 ?_
  refine va_sld hx hb hX0 hbl hbA hWc.2.2 hq.1 dL_law_739 ?_
  have hq := hq.2
  refine lv_aload_n hx hb dL_law_740 rfl (lv_at hl 0 rfl) ?_
  refine lv_iload_n hx hb dL_law_741 rfl (lv_at hl 3 rfl) ?_
  refine lv_iconst (v := 3) hx hb dL_law_742 (by decide) ?_
  refine lv_iadd hx hb dL_law_743 ?_
  refine va_sld hx hb hX0 hbl hbA hWc.2.2 hq.1 dL_law_744 ?_
  have hq := hq.2
  refine k_li hWc hWm hdis (va_runV (As := [.int (xs (ix (x3 + 1))), .int (xs (ix (x3 + 2))), .int (xs (ix (x3 + 3)))]) (rest := []) ⟨hx, hb, hml, hown, hts⟩ (c_X11_sure l Gc hc (xs (ix (x3 + 1))) (xs (ix (x3 + 2))) (xs (ix (x3 + 3))) _ hq) (cwV 3 hts (gL_V mw1010 mw1011 mw1012 mw2 mw1013) rfl rfl rfl (by decide +kernel) ⟨Nat.le_of_ble_eq_true rfl, Nat.le_of_ble_eq_true rfl⟩) (k_preV (hKC hK) hWc (shC_lt rfl (by decide)) (ceC_11 rfl) (q := (RX11, TX11, 11)) rfl) rfl rfl hl.1 rfl (lv_room (Nat.le_of_ble_eq_true rfl)) dL_law_745 ⟨Nat.le_refl _, Nat.le_refl _⟩) (fun r97 h96 H locs hq hWc hWm => ?_)
  refine lv_aload_n hx hb dL_law_748 rfl (lv_at hl 2 rfl) ?_
  refine lv_aload_n hx hb dL_law_749 rfl (lv_at hl 0 rfl) ?_
  refine lv_iload_n hx hb dL_law_750 rfl (lv_at hl 3 rfl) ?_
  refine lv_iconst (v := 1) hx hb dL_law_751 (by decide) ?_
  refine lv_iadd hx hb dL_law_752 ?_
  refine va_sld hx hb hX0 hbl hbA hWc.2.2 hq.1 dL_law_753 ?_
  have hq := hq.2
  refine lv_aload_n hx hb dL_law_754 rfl (lv_at hl 0 rfl) ?_
  refine lv_iload_n hx hb dL_law_755 rfl (lv_at hl 3 rfl) ?_
  refine lv_iconst (v := 2) hx hb dL_law_756 (by decide) ?_
  refine lv_iadd hx hb dL_law_757 ?_
  refine va_sld hx hb hX0 hbl hbA hWc.2.2 hq.1 dL_law_758 ?_
  have hq := hq.2
  refine lv_aload_n hx hb dL_law_759 rfl (lv_at hl 0 rfl) ?_
  refine lv_iload_n hx hb dL_law_760 rfl (lv_at hl 3 rfl) ?_
  refine lv_iconst (v := 3) hx hb dL_law_761 (by decide) ?_
  refine lv_iadd hx hb dL_law_762 ?_
  refine va_sld hx hb hX0 hbl hbA hWc.2.2 hq.1 dL_law_763 ?_
  have hq := hq.2
  refine k_li hWm hWc (fun q a b => hdis q b a) (va_runV (As := [.int (xs (ix (x3 + 1))), .int (xs (ix (x3 + 2))), .int (xs (ix (x3 + 3)))]) (rest := [.int r97]) ⟨hx, hb, hml, hown, hts⟩ (c_X12_sure l Gm hm (xs (ix (x3 + 1))) (xs (ix (x3 + 2))) (xs (ix (x3 + 3))) _ hq) (cwV 3 hts (gL_V mw1030 mw1031 mw1032 mw5 mw1033) rfl rfl rfl (by decide +kernel) ⟨Nat.le_of_ble_eq_true rfl, Nat.le_of_ble_eq_true rfl⟩) (k_preV (hKM hK) hWm (shM_lt rfl (by decide)) (ceM_12 rfl) (q := (RX12, TX12, 73)) rfl) rfl rfl hl.1 rfl (lv_room (Nat.le_of_ble_eq_true rfl)) dL_law_764 ⟨Nat.le_refl _, Nat.le_refl _⟩) (fun r99 h98 H locs hq hWm hWc => ?_)
  refine lv_icmp_eq (tgt := 1798) hx hb dL_law_767 (by decide) (fun c100 => ?_) (fun c100 => ?_)
  · have hq := hq.1 c100
    obtain ⟨x3_101, ex3_101⟩ : ∃ y : Int32, y = x3 + 6 := ⟨_, rfl⟩
    have hq := hq x3_101 ex3_101
    refine lv_iinc (v := x3_101) (lv' := [(3, .int x3_101), (0, .ref b), (1, .ref (Gc.2.2 0)), (2, .ref (Gm.2.2 0))]) hx hb dL_law_1798 hl (k := 3) rfl (by rw [ex3_101]; rfl) (by decide) rfl (fun ls hl => ?_)
    refine lv_goto (tgt := 18) hx hb dL_law_1801 (by decide) ?_
    exact hX _ _ _ _ _ _ hWc hWm (lv_sub hl [1, 2, 3, 0] rfl) hq
  · have hq := hq.2 c100
    refine lv_iconst (v := 0) hx hb dL_law_770 (by decide) ?_
    exact hq.elim
theorem k_law_772 {p : Program} {l : Launch} {e : Env} {s : State} {m : MethodId} {below : List Frame} {meth : Method} {c : Code} {b L : Nat} {xs : Nat → Int32} {Gc Gm : wG} (hL : L ≤ 3072) (C0 : lw_At p s m meth c b L xs) (hK : kK Gc s ∧ kK Gm s) (hdis : ∀ q, aS SC Gc q → aS SM Gm q → False) {X : Int32 × hp × hp → Prop} (hX : ∀ (x3 : Int32) (hc hm : hp) (H : Heap) (locs : List Loc) (ls : Array Slot), kW SC Gc hc (lA s) s H locs → kW SM Gm hm (lA s) s H locs → lv_has ls 4 [(0, .ref b), (1, .ref (Gc.2.2 0)), (2, .ref (Gm.2.2 0)), (3, .int x3)] → X (x3, hc, hm) → W p l e room_1 s m #[Value.ref b] below meth c H locs 600000 7302250 (lw_Z below #[Value.ref b] s) (F0 m 18 ls [])) {x3 : Int32} {hc hm : hp} {H : Heap} {locs : List Loc} {ls : Array Slot} (hWc : kW SC Gc hc (lA s) s H locs) (hWm : kW SM Gm hm (lA s) s H locs) (hl : lv_has ls 4 [(0, .ref b), (1, .ref (Gc.2.2 0)), (2, .ref (Gm.2.2 0)), (3, .int x3)]) (hq : w_law_772 L xs X x3 hc hm) : W p l e room_1 s m #[Value.ref b] below meth c H locs 600000 7302250 (lw_Z below #[Value.ref b] s) (F0 m 772 ls []) := by
  obtain ⟨hx, hb, hr, hml, hown, hts, hX0, hbl, hlocks, hgv⟩ := id C0
  have hbA : ¬ lA s b := Nat.not_le.mpr hbl
  unfold w_law_772 at hq
  refine lv_aload_n hx hb dL_law_772 rfl (lv_at hl 1 rfl) ?_
  refine lv_aload_n hx hb dL_law_773 rfl (lv_at hl 0 rfl) ?_
  refine lv_iload_n hx hb dL_law_774 rfl (lv_at hl 3 rfl) ?_
  refine lv_iconst (v := 1) hx hb dL_law_775 (by decide) ?_
  refine lv_iadd hx hb dL_law_776 ?_
  refine va_sld hx hb hX0 hbl hbA hWc.2.2 hq.1 dL_law_777 ?_
  have hq := hq.2
  refine lv_aload_n hx hb dL_law_778 rfl (lv_at hl 0 rfl) ?_
  refine lv_iload_n hx hb dL_law_779 rfl (lv_at hl 3 rfl) ?_
  refine lv_iconst (v := 2) hx hb dL_law_780 (by decide) ?_
  refine lv_iadd hx hb dL_law_781 ?_
  refine va_sld hx hb hX0 hbl hbA hWc.2.2 hq.1 dL_law_782 ?_
  have hq := hq.2
  refine lv_aload_n hx hb dL_law_783 rfl (lv_at hl 0 rfl) ?_
  refine lv_iload_n hx hb dL_law_784 rfl (lv_at hl 3 rfl) ?_
  refine lv_iconst (v := 3) hx hb dL_law_785 (by decide) ?_
  refine lv_iadd hx hb dL_law_786 ?_
  refine va_sld hx hb hX0 hbl hbA hWc.2.2 hq.1 dL_law_787 ?_
  have hq := hq.2
  refine lv_aload_n hx hb dL_law_788 rfl (lv_at hl 0 rfl) ?_
  refine lv_iload_n hx hb dL_law_789 rfl (lv_at hl 3 rfl) ?_
  refine lv_iconst (v := 4) hx hb dL_law_790 (by decide) ?_
  refine lv_iadd hx hb dL_law_791 ?_
  refine va_sld hx hb hX0 hbl hbA hWc.2.2 hq.1 dL_law_792 ?_
  have hq := hq.2
  refine k_li hWc hWm hdis (va_runV (As := [.int (xs (ix (x3 + 1))), .int (xs (ix (x3 + 2))), .int (xs (ix (x3 + 3))), .int (xs (ix (x3 + 4)))]) (rest := []) ⟨hx, hb, hml, hown, hts⟩ (c_X11_span l Gc hc (xs (ix (x3 + 1))) (xs (ix (x3 + 2))) (xs (ix (x3 + 3))) (xs (ix (x3 + 4))) _ hq) (cwV 4 hts (gL_V mw1038 mw1039 mw1040 mw2 mw1041) rfl rfl rfl (by decide +kernel) ⟨Nat.le_of_ble_eq_true rfl, Nat.le_of_ble_eq_true rfl⟩) (k_preV (hKC hK) hWc (shC_lt rfl (by decide)) (ceC_11 rfl) (q := (RX11, TX11, 11)) rfl) rfl rfl hl.1 rfl (lv_room (Nat.le_of_ble_eq_true rfl)) dL_law_793 ⟨Nat.le_refl _, Nat.le_refl _⟩) (fun r103 h102 H locs hq hWc hWm => ?_)
  refine lv_aload_n hx hb dL_law_796 rfl (lv_at hl 2 rfl) ?_
  refine lv_aload_n hx hb dL_law_797 rfl (lv_at hl 0 rfl) ?_
  refine lv_iload_n hx hb dL_law_798 rfl (lv_at hl 3 rfl) ?_
  refine lv_iconst (v := 1) hx hb dL_law_799 (by decide) ?_
  refine lv_iadd hx hb dL_law_800 ?_
  refine va_sld hx hb hX0 hbl hbA hWc.2.2 hq.1 dL_law_801 ?_
  have hq := hq.2
  refine lv_aload_n hx hb dL_law_802 rfl (lv_at hl 0 rfl) ?_
  refine lv_iload_n hx hb dL_law_803 rfl (lv_at hl 3 rfl) ?_
  refine lv_iconst (v := 2) hx hb dL_law_804 (by decide) ?_
  refine lv_iadd hx hb dL_law_805 ?_
  refine va_sld hx hb hX0 hbl hbA hWc.2.2 hq.1 dL_law_806 ?_
  have hq := hq.2
  refine lv_aload_n hx hb dL_law_807 rfl (lv_at hl 0 rfl) ?_
  refine lv_iload_n hx hb dL_law_808 rfl (lv_at hl 3 rfl) ?_
  refine lv_iconst (v := 3) hx hb dL_law_809 (by decide) ?_
  refine lv_iadd hx hb dL_law_810 ?_
  refine va_sld hx hb hX0 hbl hbA hWc.2.2 hq.1 dL_law_811 ?_
  have hq := hq.2
  refine lv_aload_n hx hb dL_law_812 rfl (lv_at hl 0 rfl) ?_
  refine lv_iload_n hx hb dL_law_813 rfl (lv_at hl 3 rfl) ?_
  refine lv_iconst (v := 4) hx hb dL_law_814 (by decide) ?_
  refine lv_iadd hx hb dL_law_815 ?_
  refine va_sld hx hb hX0 hbl hbA hWc.2.2 hq.1 dL_law_816 ?_
  have hq := hq.2
  refine k_li hWm hWc (fun q a b => hdis q b a) (va_runV (As := [.int (xs (ix (x3 + 1))), .int (xs (ix (x3 + 2))), .int (xs (ix (x3 + 3))), .int (xs (ix (x3 + 4)))]) (rest := [.int r103]) ⟨hx, hb, hml, hown, hts⟩ (c_X12_span l Gm hm (xs (ix (x3 + 1))) (xs (ix (x3 + 2))) (xs (ix (x3 + 3))) (xs (ix (x3 + 4))) _ hq) (cwV 4 hts (gL_V mw1044 mw1045 mw1046 mw5 mw1047) rfl rfl rfl (by decide +kernel) ⟨Nat.le_of_ble_eq_true rfl, Nat.le_of_ble_eq_true rfl⟩) (k_preV (hKM hK) hWm (shM_lt rfl (by decide)) (ceM_12 rfl) (q := (RX12, TX12, 73)) rfl) rfl rfl hl.1 rfl (lv_room (Nat.le_of_ble_eq_true rfl)) dL_law_817 ⟨Nat.le_refl _, Nat.le_refl _⟩) (fun r105 h104 H locs hq hWm hWc => ?_)
  refine lv_icmp_eq (tgt := 1798) hx hb dL_law_820 (by decide) (fun c106 => ?_) (fun c106 => ?_)
  · have hq := hq.1 c106
    obtain ⟨x3_107, ex3_107⟩ : ∃ y : Int32, y = x3 + 6 := ⟨_, rfl⟩
    have hq := hq x3_107 ex3_107
    refine lv_iinc (v := x3_107) (lv' := [(3, .int x3_107), (0, .ref b), (1, .ref (Gc.2.2 0)), (2, .ref (Gm.2.2 0))]) hx hb dL_law_1798 hl (k := 3) rfl (by rw [ex3_107]; rfl) (by decide) rfl (fun ls hl => ?_)
    refine lv_goto (tgt := 18) hx hb dL_law_1801 (by decide) ?_
    exact hX _ _ _ _ _ _ hWc hWm (lv_sub hl [1, 2, 3, 0] rfl) hq
  · have hq := hq.2 c106
    refine lv_iconst (v := 0) hx hb dL_law_823 (by decide) ?_
    exact hq.elim
theorem k_law_825 {p : Program} {l : Launch} {e : Env} {s : State} {m : MethodId} {below : List Frame} {meth : Method} {c : Code} {b L : Nat} {xs : Nat → Int32} {Gc Gm : wG} (hL : L ≤ 3072) (C0 : lw_At p s m meth c b L xs) (hK : kK Gc s ∧ kK Gm s) (hdis : ∀ q, aS SC Gc q → aS SM Gm q → False) {X : Int32 × hp × hp → Prop} (hX : ∀ (x3 : Int32) (hc hm : hp) (H : Heap) (locs : List Loc) (ls : Array Slot), kW SC Gc hc (lA s) s H locs → kW SM Gm hm (lA s) s H locs → lv_has ls 4 [(0, .ref b), (1, .ref (Gc.2.2 0)), (2, .ref (Gm.2.2 0)), (3, .int x3)] → X (x3, hc, hm) → W p l e room_1 s m #[Value.ref b] below meth c H locs 600000 7302250 (lw_Z below #[Value.ref b] s) (F0 m 18 ls [])) {x3 : Int32} {hc hm : hp} {H : Heap} {locs : List Loc} {ls : Array Slot} (hWc : kW SC Gc hc (lA s) s H locs) (hWm : kW SM Gm hm (lA s) s H locs) (hl : lv_has ls 4 [(0, .ref b), (1, .ref (Gc.2.2 0)), (2, .ref (Gm.2.2 0)), (3, .int x3)]) (hq : w_law_825 L xs X x3 hc hm) : W p l e room_1 s m #[Value.ref b] below meth c H locs 600000 7302250 (lw_Z below #[Value.ref b] s) (F0 m 825 ls []) := by
  obtain ⟨hx, hb, hr, hml, hown, hts, hX0, hbl, hlocks, hgv⟩ := id C0
  have hbA : ¬ lA s b := Nat.not_le.mpr hbl
  unfold w_law_825 at hq
  refine lv_aload_n hx hb dL_law_825 rfl (lv_at hl 1 rfl) ?_
  refine lv_aload_n hx hb dL_law_826 rfl (lv_at hl 0 rfl) ?_
  refine lv_iload_n hx hb dL_law_827 rfl (lv_at hl 3 rfl) ?_
  refine lv_iconst (v := 1) hx hb dL_law_828 (by decide) ?_
  refine lv_iadd hx hb dL_law_829 ?_
  refine va_sld hx hb hX0 hbl hbA hWc.2.2 hq.1 dL_law_830 ?_
  have hq := hq.2
  refine lv_aload_n hx hb dL_law_831 rfl (lv_at hl 0 rfl) ?_
  refine lv_iload_n hx hb dL_law_832 rfl (lv_at hl 3 rfl) ?_
  refine lv_iconst (v := 2) hx hb dL_law_833 (by decide) ?_
  refine lv_iadd hx hb dL_law_834 ?_
  refine va_sld hx hb hX0 hbl hbA hWc.2.2 hq.1 dL_law_835 ?_
  have hq := hq.2
  refine lv_aload_n hx hb dL_law_836 rfl (lv_at hl 0 rfl) ?_
  refine lv_iload_n hx hb dL_law_837 rfl (lv_at hl 3 rfl) ?_
  refine lv_iconst (v := 3) hx hb dL_law_838 (by decide) ?_
  refine lv_iadd hx hb dL_law_839 ?_
  refine va_sld hx hb hX0 hbl hbA hWc.2.2 hq.1 dL_law_840 ?_
  have hq := hq.2
  refine k_li hWc hWm hdis (va_runV (As := [.int (xs (ix (x3 + 1))), .int (xs (ix (x3 + 2))), .int (xs (ix (x3 + 3)))]) (rest := []) ⟨hx, hb, hml, hown, hts⟩ (c_X11_liars l Gc hc (xs (ix (x3 + 1))) (xs (ix (x3 + 2))) (xs (ix (x3 + 3))) _ hq) (cwV 3 hts (gL_V mw1048 mw1049 mw1050 mw2 mw1051) rfl rfl rfl (by decide +kernel) ⟨Nat.le_of_ble_eq_true rfl, Nat.le_of_ble_eq_true rfl⟩) (k_preV (hKC hK) hWc (shC_lt rfl (by decide)) (ceC_11 rfl) (q := (RX11, TX11, 11)) rfl) rfl rfl hl.1 rfl (lv_room (Nat.le_of_ble_eq_true rfl)) dL_law_841 ⟨Nat.le_refl _, Nat.le_refl _⟩) (fun r109 h108 H locs hq hWc hWm => ?_)
  refine lv_aload_n hx hb dL_law_844 rfl (lv_at hl 2 rfl) ?_
  refine lv_aload_n hx hb dL_law_845 rfl (lv_at hl 0 rfl) ?_
  refine lv_iload_n hx hb dL_law_846 rfl (lv_at hl 3 rfl) ?_
  refine lv_iconst (v := 1) hx hb dL_law_847 (by decide) ?_
  refine lv_iadd hx hb dL_law_848 ?_
  refine va_sld hx hb hX0 hbl hbA hWc.2.2 hq.1 dL_law_849 ?_
  have hq := hq.2
  refine lv_aload_n hx hb dL_law_850 rfl (lv_at hl 0 rfl) ?_
  refine lv_iload_n hx hb dL_law_851 rfl (lv_at hl 3 rfl) ?_
  refine lv_iconst (v := 2) hx hb dL_law_852 (by decide) ?_
  refine lv_iadd hx hb dL_law_853 ?_
  refine va_sld hx hb hX0 hbl hbA hWc.2.2 hq.1 dL_law_854 ?_
  have hq := hq.2
  refine lv_aload_n hx hb dL_law_855 rfl (lv_at hl 0 rfl) ?_
  refine lv_iload_n hx hb dL_law_856 rfl (lv_at hl 3 rfl) ?_
  refine lv_iconst (v := 3) hx hb dL_law_857 (by decide) ?_
  refine lv_iadd hx hb dL_law_858 ?_
  refine va_sld hx hb hX0 hbl hbA hWc.2.2 hq.1 dL_law_859 ?_
  have hq := hq.2
  refine k_li hWm hWc (fun q a b => hdis q b a) (va_runV (As := [.int (xs (ix (x3 + 1))), .int (xs (ix (x3 + 2))), .int (xs (ix (x3 + 3)))]) (rest := [.int r109]) ⟨hx, hb, hml, hown, hts⟩ (c_X12_liars l Gm hm (xs (ix (x3 + 1))) (xs (ix (x3 + 2))) (xs (ix (x3 + 3))) _ hq) (cwV 3 hts (gL_V mw1060 mw1061 mw1062 mw5 mw1063) rfl rfl rfl (by decide +kernel) ⟨Nat.le_of_ble_eq_true rfl, Nat.le_of_ble_eq_true rfl⟩) (k_preV (hKM hK) hWm (shM_lt rfl (by decide)) (ceM_12 rfl) (q := (RX12, TX12, 73)) rfl) rfl rfl hl.1 rfl (lv_room (Nat.le_of_ble_eq_true rfl)) dL_law_860 ⟨Nat.le_refl _, Nat.le_refl _⟩) (fun r111 h110 H locs hq hWm hWc => ?_)
  refine lv_icmp_eq (tgt := 1798) hx hb dL_law_863 (by decide) (fun c112 => ?_) (fun c112 => ?_)
  · have hq := hq.1 c112
    obtain ⟨x3_113, ex3_113⟩ : ∃ y : Int32, y = x3 + 6 := ⟨_, rfl⟩
    have hq := hq x3_113 ex3_113
    refine lv_iinc (v := x3_113) (lv' := [(3, .int x3_113), (0, .ref b), (1, .ref (Gc.2.2 0)), (2, .ref (Gm.2.2 0))]) hx hb dL_law_1798 hl (k := 3) rfl (by rw [ex3_113]; rfl) (by decide) rfl (fun ls hl => ?_)
    refine lv_goto (tgt := 18) hx hb dL_law_1801 (by decide) ?_
    exact hX _ _ _ _ _ _ hWc hWm (lv_sub hl [1, 2, 3, 0] rfl) hq
  · have hq := hq.2 c112
    refine lv_iconst (v := 0) hx hb dL_law_866 (by decide) ?_
    exact hq.elim
theorem k_law_868 {p : Program} {l : Launch} {e : Env} {s : State} {m : MethodId} {below : List Frame} {meth : Method} {c : Code} {b L : Nat} {xs : Nat → Int32} {Gc Gm : wG} (hL : L ≤ 3072) (C0 : lw_At p s m meth c b L xs) (hK : kK Gc s ∧ kK Gm s) (hdis : ∀ q, aS SC Gc q → aS SM Gm q → False) {X : Int32 × hp × hp → Prop} (hX : ∀ (x3 : Int32) (hc hm : hp) (H : Heap) (locs : List Loc) (ls : Array Slot), kW SC Gc hc (lA s) s H locs → kW SM Gm hm (lA s) s H locs → lv_has ls 4 [(0, .ref b), (1, .ref (Gc.2.2 0)), (2, .ref (Gm.2.2 0)), (3, .int x3)] → X (x3, hc, hm) → W p l e room_1 s m #[Value.ref b] below meth c H locs 600000 7302250 (lw_Z below #[Value.ref b] s) (F0 m 18 ls [])) {x3 : Int32} {hc hm : hp} {H : Heap} {locs : List Loc} {ls : Array Slot} (hWc : kW SC Gc hc (lA s) s H locs) (hWm : kW SM Gm hm (lA s) s H locs) (hl : lv_has ls 4 [(0, .ref b), (1, .ref (Gc.2.2 0)), (2, .ref (Gm.2.2 0)), (3, .int x3)]) (hq : w_law_868 L xs X x3 hc hm) : W p l e room_1 s m #[Value.ref b] below meth c H locs 600000 7302250 (lw_Z below #[Value.ref b] s) (F0 m 868 ls []) := by
  obtain ⟨hx, hb, hr, hml, hown, hts, hX0, hbl, hlocks, hgv⟩ := id C0
  have hbA : ¬ lA s b := Nat.not_le.mpr hbl
  unfold w_law_868 at hq
  refine lv_aload_n hx hb dL_law_868 rfl (lv_at hl 1 rfl) ?_
  refine lv_aload_n hx hb dL_law_869 rfl (lv_at hl 0 rfl) ?_
  refine lv_iload_n hx hb dL_law_870 rfl (lv_at hl 3 rfl) ?_
  refine lv_iconst (v := 1) hx hb dL_law_871 (by decide) ?_
  refine lv_iadd hx hb dL_law_872 ?_
  refine va_sld hx hb hX0 hbl hbA hWc.2.2 hq.1 dL_law_873 ?_
  have hq := hq.2
  refine lv_aload_n hx hb dL_law_874 rfl (lv_at hl 0 rfl) ?_
  refine lv_iload_n hx hb dL_law_875 rfl (lv_at hl 3 rfl) ?_
  refine lv_iconst (v := 2) hx hb dL_law_876 (by decide) ?_
  refine lv_iadd hx hb dL_law_877 ?_
  refine va_sld hx hb hX0 hbl hbA hWc.2.2 hq.1 dL_law_878 ?_
  have hq := hq.2
  refine lv_aload_n hx hb dL_law_879 rfl (lv_at hl 0 rfl) ?_
  refine lv_iload_n hx hb dL_law_880 rfl (lv_at hl 3 rfl) ?_
  refine lv_iconst (v := 3) hx hb dL_law_881 (by decide) ?_
  refine lv_iadd hx hb dL_law_882 ?_
  refine va_sld hx hb hX0 hbl hbA hWc.2.2 hq.1 dL_law_883 ?_
  have hq := hq.2
  refine lv_aload_n hx hb dL_law_884 rfl (lv_at hl 0 rfl) ?_
  refine lv_iload_n hx hb dL_law_885 rfl (lv_at hl 3 rfl) ?_
  refine lv_iconst (v := 4) hx hb dL_law_886 (by decide) ?_
  refine lv_iadd hx hb dL_law_887 ?_
  refine va_sld hx hb hX0 hbl hbA hWc.2.2 hq.1 dL_law_888 ?_
  have hq := hq.2
  refine k_li hWc hWm hdis (va_runV (As := [.int (xs (ix (x3 + 1))), .int (xs (ix (x3 + 2))), .int (xs (ix (x3 + 3))), .int (xs (ix (x3 + 4)))]) (rest := []) ⟨hx, hb, hml, hown, hts⟩ (c_X11_next l Gc hc (xs (ix (x3 + 1))) (xs (ix (x3 + 2))) (xs (ix (x3 + 3))) (xs (ix (x3 + 4))) _ hq) (cwV 4 hts (gL_V mw1064 mw1065 mw1066 mw2 mw1067) rfl rfl rfl (by decide +kernel) ⟨Nat.le_of_ble_eq_true rfl, Nat.le_of_ble_eq_true rfl⟩) (k_preV (hKC hK) hWc (shC_lt rfl (by decide)) (ceC_11 rfl) (q := (RX11, TX11, 11)) rfl) rfl rfl hl.1 rfl (lv_room (Nat.le_of_ble_eq_true rfl)) dL_law_889 ⟨Nat.le_refl _, Nat.le_refl _⟩) (fun r115 h114 H locs hq hWc hWm => ?_)
  refine lv_aload_n hx hb dL_law_892 rfl (lv_at hl 2 rfl) ?_
  refine lv_aload_n hx hb dL_law_893 rfl (lv_at hl 0 rfl) ?_
  refine lv_iload_n hx hb dL_law_894 rfl (lv_at hl 3 rfl) ?_
  refine lv_iconst (v := 1) hx hb dL_law_895 (by decide) ?_
  refine lv_iadd hx hb dL_law_896 ?_
  refine va_sld hx hb hX0 hbl hbA hWc.2.2 hq.1 dL_law_897 ?_
  have hq := hq.2
  refine lv_aload_n hx hb dL_law_898 rfl (lv_at hl 0 rfl) ?_
  refine lv_iload_n hx hb dL_law_899 rfl (lv_at hl 3 rfl) ?_
  refine lv_iconst (v := 2) hx hb dL_law_900 (by decide) ?_
  refine lv_iadd hx hb dL_law_901 ?_
  refine va_sld hx hb hX0 hbl hbA hWc.2.2 hq.1 dL_law_902 ?_
  have hq := hq.2
  refine lv_aload_n hx hb dL_law_903 rfl (lv_at hl 0 rfl) ?_
  refine lv_iload_n hx hb dL_law_904 rfl (lv_at hl 3 rfl) ?_
  refine lv_iconst (v := 3) hx hb dL_law_905 (by decide) ?_
  refine lv_iadd hx hb dL_law_906 ?_
  refine va_sld hx hb hX0 hbl hbA hWc.2.2 hq.1 dL_law_907 ?_
  have hq := hq.2
  refine lv_aload_n hx hb dL_law_908 rfl (lv_at hl 0 rfl) ?_
  refine lv_iload_n hx hb dL_law_909 rfl (lv_at hl 3 rfl) ?_
  refine lv_iconst (v := 4) hx hb dL_law_910 (by decide) ?_
  refine lv_iadd hx hb dL_law_911 ?_
  refine va_sld hx hb hX0 hbl hbA hWc.2.2 hq.1 dL_law_912 ?_
  have hq := hq.2
  refine k_li hWm hWc (fun q a b => hdis q b a) (va_runV (As := [.int (xs (ix (x3 + 1))), .int (xs (ix (x3 + 2))), .int (xs (ix (x3 + 3))), .int (xs (ix (x3 + 4)))]) (rest := [.int r115]) ⟨hx, hb, hml, hown, hts⟩ (c_X12_next l Gm hm (xs (ix (x3 + 1))) (xs (ix (x3 + 2))) (xs (ix (x3 + 3))) (xs (ix (x3 + 4))) _ hq) (cwV 4 hts (gL_V mw1082 mw1083 mw1084 mw5 mw1085) rfl rfl rfl (by decide +kernel) ⟨Nat.le_of_ble_eq_true rfl, Nat.le_of_ble_eq_true rfl⟩) (k_preV (hKM hK) hWm (shM_lt rfl (by decide)) (ceM_12 rfl) (q := (RX12, TX12, 73)) rfl) rfl rfl hl.1 rfl (lv_room (Nat.le_of_ble_eq_true rfl)) dL_law_913 ⟨Nat.le_refl _, Nat.le_refl _⟩) (fun r117 h116 H locs hq hWm hWc => ?_)
  refine lv_icmp_eq (tgt := 1798) hx hb dL_law_916 (by decide) (fun c118 => ?_) (fun c118 => ?_)
  · have hq := hq.1 c118
    obtain ⟨x3_119, ex3_119⟩ : ∃ y : Int32, y = x3 + 6 := ⟨_, rfl⟩
    have hq := hq x3_119 ex3_119
    refine lv_iinc (v := x3_119) (lv' := [(3, .int x3_119), (0, .ref b), (1, .ref (Gc.2.2 0)), (2, .ref (Gm.2.2 0))]) hx hb dL_law_1798 hl (k := 3) rfl (by rw [ex3_119]; rfl) (by decide) rfl (fun ls hl => ?_)
    refine lv_goto (tgt := 18) hx hb dL_law_1801 (by decide) ?_
    exact hX _ _ _ _ _ _ hWc hWm (lv_sub hl [1, 2, 3, 0] rfl) hq
  · have hq := hq.2 c118
    refine lv_iconst (v := 0) hx hb dL_law_919 (by decide) ?_
    exact hq.elim
theorem k_law_921 {p : Program} {l : Launch} {e : Env} {s : State} {m : MethodId} {below : List Frame} {meth : Method} {c : Code} {b L : Nat} {xs : Nat → Int32} {Gc Gm : wG} (hL : L ≤ 3072) (C0 : lw_At p s m meth c b L xs) (hK : kK Gc s ∧ kK Gm s) (hdis : ∀ q, aS SC Gc q → aS SM Gm q → False) {X : Int32 × hp × hp → Prop} (hX : ∀ (x3 : Int32) (hc hm : hp) (H : Heap) (locs : List Loc) (ls : Array Slot), kW SC Gc hc (lA s) s H locs → kW SM Gm hm (lA s) s H locs → lv_has ls 4 [(0, .ref b), (1, .ref (Gc.2.2 0)), (2, .ref (Gm.2.2 0)), (3, .int x3)] → X (x3, hc, hm) → W p l e room_1 s m #[Value.ref b] below meth c H locs 600000 7302250 (lw_Z below #[Value.ref b] s) (F0 m 18 ls [])) {x3 : Int32} {hc hm : hp} {H : Heap} {locs : List Loc} {ls : Array Slot} (hWc : kW SC Gc hc (lA s) s H locs) (hWm : kW SM Gm hm (lA s) s H locs) (hl : lv_has ls 4 [(0, .ref b), (1, .ref (Gc.2.2 0)), (2, .ref (Gm.2.2 0)), (3, .int x3)]) (hq : w_law_921 L xs X x3 hc hm) : W p l e room_1 s m #[Value.ref b] below meth c H locs 600000 7302250 (lw_Z below #[Value.ref b] s) (F0 m 921 ls []) := by
  obtain ⟨hx, hb, hr, hml, hown, hts, hX0, hbl, hlocks, hgv⟩ := id C0
  have hbA : ¬ lA s b := Nat.not_le.mpr hbl
  unfold w_law_921 at hq
  refine lv_aload_n hx hb dL_law_921 rfl (lv_at hl 1 rfl) ?_
  refine k_li hWc hWm hdis (va_runV (As := []) (rest := []) ⟨hx, hb, hml, hown, hts⟩ (c_X11_once l Gc hc _ hq) (cwV 0 hts (gL_V mw1086 mw1087 mw1088 mw2 mw1089) rfl rfl rfl (by decide +kernel) ⟨Nat.le_of_ble_eq_true rfl, Nat.le_of_ble_eq_true rfl⟩) (k_preV (hKC hK) hWc (shC_lt rfl (by decide)) (ceC_11 rfl) (q := (RX11, TX11, 11)) rfl) rfl rfl hl.1 rfl (lv_room (Nat.le_of_ble_eq_true rfl)) dL_law_922 ⟨Nat.le_refl _, Nat.le_refl _⟩) (fun r121 h120 H locs hq hWc hWm => ?_)
  refine lv_aload_n hx hb dL_law_925 rfl (lv_at hl 2 rfl) ?_
  refine k_li hWm hWc (fun q a b => hdis q b a) (va_runV (As := []) (rest := [.int r121]) ⟨hx, hb, hml, hown, hts⟩ (c_X12_once l Gm hm _ hq) (cwV 0 hts (gL_V mw1090 mw1091 mw1092 mw5 mw1093) rfl rfl rfl (by decide +kernel) ⟨Nat.le_of_ble_eq_true rfl, Nat.le_of_ble_eq_true rfl⟩) (k_preV (hKM hK) hWm (shM_lt rfl (by decide)) (ceM_12 rfl) (q := (RX12, TX12, 73)) rfl) rfl rfl hl.1 rfl (lv_room (Nat.le_of_ble_eq_true rfl)) dL_law_926 ⟨Nat.le_refl _, Nat.le_refl _⟩) (fun r123 h122 H locs hq hWm hWc => ?_)
  refine lv_icmp_eq (tgt := 1798) hx hb dL_law_929 (by decide) (fun c124 => ?_) (fun c124 => ?_)
  · have hq := hq.1 c124
    obtain ⟨x3_125, ex3_125⟩ : ∃ y : Int32, y = x3 + 6 := ⟨_, rfl⟩
    have hq := hq x3_125 ex3_125
    refine lv_iinc (v := x3_125) (lv' := [(3, .int x3_125), (0, .ref b), (1, .ref (Gc.2.2 0)), (2, .ref (Gm.2.2 0))]) hx hb dL_law_1798 hl (k := 3) rfl (by rw [ex3_125]; rfl) (by decide) rfl (fun ls hl => ?_)
    refine lv_goto (tgt := 18) hx hb dL_law_1801 (by decide) ?_
    exact hX _ _ _ _ _ _ hWc hWm (lv_sub hl [1, 2, 3, 0] rfl) hq
  · have hq := hq.2 c124
    refine lv_iconst (v := 0) hx hb dL_law_932 (by decide) ?_
    exact hq.elim
theorem k_law_934 {p : Program} {l : Launch} {e : Env} {s : State} {m : MethodId} {below : List Frame} {meth : Method} {c : Code} {b L : Nat} {xs : Nat → Int32} {Gc Gm : wG} (hL : L ≤ 3072) (C0 : lw_At p s m meth c b L xs) (hK : kK Gc s ∧ kK Gm s) (hdis : ∀ q, aS SC Gc q → aS SM Gm q → False) {X : Int32 × hp × hp → Prop} (hX : ∀ (x3 : Int32) (hc hm : hp) (H : Heap) (locs : List Loc) (ls : Array Slot), kW SC Gc hc (lA s) s H locs → kW SM Gm hm (lA s) s H locs → lv_has ls 4 [(0, .ref b), (1, .ref (Gc.2.2 0)), (2, .ref (Gm.2.2 0)), (3, .int x3)] → X (x3, hc, hm) → W p l e room_1 s m #[Value.ref b] below meth c H locs 600000 7302250 (lw_Z below #[Value.ref b] s) (F0 m 18 ls [])) {x3 : Int32} {hc hm : hp} {H : Heap} {locs : List Loc} {ls : Array Slot} (hWc : kW SC Gc hc (lA s) s H locs) (hWm : kW SM Gm hm (lA s) s H locs) (hl : lv_has ls 4 [(0, .ref b), (1, .ref (Gc.2.2 0)), (2, .ref (Gm.2.2 0)), (3, .int x3)]) (hq : w_law_934 L xs X x3 hc hm) : W p l e room_1 s m #[Value.ref b] below meth c H locs 600000 7302250 (lw_Z below #[Value.ref b] s) (F0 m 934 ls []) := by
  obtain ⟨hx, hb, hr, hml, hown, hts, hX0, hbl, hlocks, hgv⟩ := id C0
  have hbA : ¬ lA s b := Nat.not_le.mpr hbl
  unfold w_law_934 at hq
  refine lv_aload_n hx hb dL_law_934 rfl (lv_at hl 1 rfl) ?_
  refine lv_aload_n hx hb dL_law_935 rfl (lv_at hl 0 rfl) ?_
  refine lv_iload_n hx hb dL_law_936 rfl (lv_at hl 3 rfl) ?_
  refine lv_iconst (v := 1) hx hb dL_law_937 (by decide) ?_
  refine lv_iadd hx hb dL_law_938 ?_
  refine va_sld hx hb hX0 hbl hbA hWc.2.2 hq.1 dL_law_939 ?_
  have hq := hq.2
  refine k_li hWc hWm hdis (va_runV (As := [.int (xs (ix (x3 + 1)))]) (rest := []) ⟨hx, hb, hml, hown, hts⟩ (c_X11_few l Gc hc (xs (ix (x3 + 1))) _ hq) (cwV 1 hts (gL_V mw1094 mw1095 mw1096 mw2 mw1097) rfl rfl rfl (by decide +kernel) ⟨Nat.le_of_ble_eq_true rfl, Nat.le_of_ble_eq_true rfl⟩) (k_preV (hKC hK) hWc (shC_lt rfl (by decide)) (ceC_11 rfl) (q := (RX11, TX11, 11)) rfl) rfl rfl hl.1 rfl (lv_room (Nat.le_of_ble_eq_true rfl)) dL_law_940 ⟨Nat.le_refl _, Nat.le_refl _⟩) (fun r127 h126 H locs hq hWc hWm => ?_)
  refine lv_aload_n hx hb dL_law_943 rfl (lv_at hl 2 rfl) ?_
  refine lv_aload_n hx hb dL_law_944 rfl (lv_at hl 0 rfl) ?_
  refine lv_iload_n hx hb dL_law_945 rfl (lv_at hl 3 rfl) ?_
  refine lv_iconst (v := 1) hx hb dL_law_946 (by decide) ?_
  refine lv_iadd hx hb dL_law_947 ?_
  refine va_sld hx hb hX0 hbl hbA hWc.2.2 hq.1 dL_law_948 ?_
  have hq := hq.2
  refine k_li hWm hWc (fun q a b => hdis q b a) (va_runV (As := [.int (xs (ix (x3 + 1)))]) (rest := [.int r127]) ⟨hx, hb, hml, hown, hts⟩ (c_X12_few l Gm hm (xs (ix (x3 + 1))) _ hq) (cwV 1 hts (gL_V mw1110 mw1111 mw1112 mw5 mw1113) rfl rfl rfl (by decide +kernel) ⟨Nat.le_of_ble_eq_true rfl, Nat.le_of_ble_eq_true rfl⟩) (k_preV (hKM hK) hWm (shM_lt rfl (by decide)) (ceM_12 rfl) (q := (RX12, TX12, 73)) rfl) rfl rfl hl.1 rfl (lv_room (Nat.le_of_ble_eq_true rfl)) dL_law_949 ⟨Nat.le_refl _, Nat.le_refl _⟩) (fun r129 h128 H locs hq hWm hWc => ?_)
  refine lv_icmp_eq (tgt := 1798) hx hb dL_law_952 (by decide) (fun c130 => ?_) (fun c130 => ?_)
  · have hq := hq.1 c130
    obtain ⟨x3_131, ex3_131⟩ : ∃ y : Int32, y = x3 + 6 := ⟨_, rfl⟩
    have hq := hq x3_131 ex3_131
    refine lv_iinc (v := x3_131) (lv' := [(3, .int x3_131), (0, .ref b), (1, .ref (Gc.2.2 0)), (2, .ref (Gm.2.2 0))]) hx hb dL_law_1798 hl (k := 3) rfl (by rw [ex3_131]; rfl) (by decide) rfl (fun ls hl => ?_)
    refine lv_goto (tgt := 18) hx hb dL_law_1801 (by decide) ?_
    exact hX _ _ _ _ _ _ hWc hWm (lv_sub hl [1, 2, 3, 0] rfl) hq
  · have hq := hq.2 c130
    refine lv_iconst (v := 0) hx hb dL_law_955 (by decide) ?_
    exact hq.elim
theorem k_law_957 {p : Program} {l : Launch} {e : Env} {s : State} {m : MethodId} {below : List Frame} {meth : Method} {c : Code} {b L : Nat} {xs : Nat → Int32} {Gc Gm : wG} (hL : L ≤ 3072) (C0 : lw_At p s m meth c b L xs) (hK : kK Gc s ∧ kK Gm s) (hdis : ∀ q, aS SC Gc q → aS SM Gm q → False) {X : Int32 × hp × hp → Prop} (hX : ∀ (x3 : Int32) (hc hm : hp) (H : Heap) (locs : List Loc) (ls : Array Slot), kW SC Gc hc (lA s) s H locs → kW SM Gm hm (lA s) s H locs → lv_has ls 4 [(0, .ref b), (1, .ref (Gc.2.2 0)), (2, .ref (Gm.2.2 0)), (3, .int x3)] → X (x3, hc, hm) → W p l e room_1 s m #[Value.ref b] below meth c H locs 600000 7302250 (lw_Z below #[Value.ref b] s) (F0 m 18 ls [])) {x3 : Int32} {hc hm : hp} {H : Heap} {locs : List Loc} {ls : Array Slot} (hWc : kW SC Gc hc (lA s) s H locs) (hWm : kW SM Gm hm (lA s) s H locs) (hl : lv_has ls 4 [(0, .ref b), (1, .ref (Gc.2.2 0)), (2, .ref (Gm.2.2 0)), (3, .int x3)]) (hq : w_law_957 L xs X x3 hc hm) : W p l e room_1 s m #[Value.ref b] below meth c H locs 600000 7302250 (lw_Z below #[Value.ref b] s) (F0 m 957 ls []) := by
  obtain ⟨hx, hb, hr, hml, hown, hts, hX0, hbl, hlocks, hgv⟩ := id C0
  have hbA : ¬ lA s b := Nat.not_le.mpr hbl
  unfold w_law_957 at hq
  refine lv_aload_n hx hb dL_law_957 rfl (lv_at hl 1 rfl) ?_
  refine lv_aload_n hx hb dL_law_958 rfl (lv_at hl 0 rfl) ?_
  refine lv_iload_n hx hb dL_law_959 rfl (lv_at hl 3 rfl) ?_
  refine lv_iconst (v := 1) hx hb dL_law_960 (by decide) ?_
  refine lv_iadd hx hb dL_law_961 ?_
  refine va_sld hx hb hX0 hbl hbA hWc.2.2 hq.1 dL_law_962 ?_
  have hq := hq.2
  refine lv_aload_n hx hb dL_law_963 rfl (lv_at hl 0 rfl) ?_
  refine lv_iload_n hx hb dL_law_964 rfl (lv_at hl 3 rfl) ?_
  refine lv_iconst (v := 2) hx hb dL_law_965 (by decide) ?_
  refine lv_iadd hx hb dL_law_966 ?_
  refine va_sld hx hb hX0 hbl hbA hWc.2.2 hq.1 dL_law_967 ?_
  have hq := hq.2
  refine k_li hWc hWm hdis (va_runV (As := [.int (xs (ix (x3 + 1))), .int (xs (ix (x3 + 2)))]) (rest := []) ⟨hx, hb, hml, hown, hts⟩ (c_X11_meets l Gc hc (xs (ix (x3 + 1))) (xs (ix (x3 + 2))) _ hq) (cwV 2 hts (gL_V mw1115 mw1116 mw1117 mw2 mw1118) rfl rfl rfl (by decide +kernel) ⟨Nat.le_of_ble_eq_true rfl, Nat.le_of_ble_eq_true rfl⟩) (k_preV (hKC hK) hWc (shC_lt rfl (by decide)) (ceC_11 rfl) (q := (RX11, TX11, 11)) rfl) rfl rfl hl.1 rfl (lv_room (Nat.le_of_ble_eq_true rfl)) dL_law_968 ⟨Nat.le_refl _, Nat.le_refl _⟩) (fun r133 h132 H locs hq hWc hWm => ?_)
  rw [hq.1] at hWc
  have hq := hq.2
  refine lv_aload_n hx hb dL_law_971 rfl (lv_at hl 2 rfl) ?_
  refine lv_aload_n hx hb dL_law_972 rfl (lv_at hl 0 rfl) ?_
  refine lv_iload_n hx hb dL_law_973 rfl (lv_at hl 3 rfl) ?_
  refine lv_iconst (v := 1) hx hb dL_law_974 (by decide) ?_
  refine lv_iadd hx hb dL_law_975 ?_
  refine va_sld hx hb hX0 hbl hbA hWc.2.2 hq.1 dL_law_976 ?_
  have hq := hq.2
  refine lv_aload_n hx hb dL_law_977 rfl (lv_at hl 0 rfl) ?_
  refine lv_iload_n hx hb dL_law_978 rfl (lv_at hl 3 rfl) ?_
  refine lv_iconst (v := 2) hx hb dL_law_979 (by decide) ?_
  refine lv_iadd hx hb dL_law_980 ?_
  refine va_sld hx hb hX0 hbl hbA hWc.2.2 hq.1 dL_law_981 ?_
  have hq := hq.2
  refine k_li hWm hWc (fun q a b => hdis q b a) (va_runV (As := [.int (xs (ix (x3 + 1))), .int (xs (ix (x3 + 2)))]) (rest := [.int r133]) ⟨hx, hb, hml, hown, hts⟩ (c_X12_meets l Gm hm (xs (ix (x3 + 1))) (xs (ix (x3 + 2))) _ hq) (cwV 2 hts (gL_V mw1123 mw1124 mw1125 mw5 mw1126) rfl rfl rfl (by decide +kernel) ⟨Nat.le_of_ble_eq_true rfl, Nat.le_of_ble_eq_true rfl⟩) (k_preV (hKM hK) hWm (shM_lt rfl (by decide)) (ceM_12 rfl) (q := (RX12, TX12, 73)) rfl) rfl rfl hl.1 rfl (lv_room (Nat.le_of_ble_eq_true rfl)) dL_law_982 ⟨Nat.le_refl _, Nat.le_refl _⟩) (fun r135 h134 H locs hq hWm hWc => ?_)
  rw [hq.1] at hWm
  have hq := hq.2
  refine lv_icmp_eq (tgt := 1798) hx hb dL_law_985 (by decide) (fun c136 => ?_) (fun c136 => ?_)
  · have hq := hq.1 c136
    obtain ⟨x3_137, ex3_137⟩ : ∃ y : Int32, y = x3 + 6 := ⟨_, rfl⟩
    have hq := hq x3_137 ex3_137
    refine lv_iinc (v := x3_137) (lv' := [(3, .int x3_137), (0, .ref b), (1, .ref (Gc.2.2 0)), (2, .ref (Gm.2.2 0))]) hx hb dL_law_1798 hl (k := 3) rfl (by rw [ex3_137]; rfl) (by decide) rfl (fun ls hl => ?_)
    refine lv_goto (tgt := 18) hx hb dL_law_1801 (by decide) ?_
    exact hX _ _ _ _ _ _ hWc hWm (lv_sub hl [1, 2, 3, 0] rfl) hq
  · have hq := hq.2 c136
    refine lv_iconst (v := 0) hx hb dL_law_988 (by decide) ?_
    exact hq.elim
theorem k_law_990 {p : Program} {l : Launch} {e : Env} {s : State} {m : MethodId} {below : List Frame} {meth : Method} {c : Code} {b L : Nat} {xs : Nat → Int32} {Gc Gm : wG} (hL : L ≤ 3072) (C0 : lw_At p s m meth c b L xs) (hK : kK Gc s ∧ kK Gm s) (hdis : ∀ q, aS SC Gc q → aS SM Gm q → False) {X : Int32 × hp × hp → Prop} (hX : ∀ (x3 : Int32) (hc hm : hp) (H : Heap) (locs : List Loc) (ls : Array Slot), kW SC Gc hc (lA s) s H locs → kW SM Gm hm (lA s) s H locs → lv_has ls 4 [(0, .ref b), (1, .ref (Gc.2.2 0)), (2, .ref (Gm.2.2 0)), (3, .int x3)] → X (x3, hc, hm) → W p l e room_1 s m #[Value.ref b] below meth c H locs 600000 7302250 (lw_Z below #[Value.ref b] s) (F0 m 18 ls [])) {x3 : Int32} {hc hm : hp} {H : Heap} {locs : List Loc} {ls : Array Slot} (hWc : kW SC Gc hc (lA s) s H locs) (hWm : kW SM Gm hm (lA s) s H locs) (hl : lv_has ls 4 [(0, .ref b), (1, .ref (Gc.2.2 0)), (2, .ref (Gm.2.2 0)), (3, .int x3)]) (hq : w_law_990 L xs X x3 hc hm) : W p l e room_1 s m #[Value.ref b] below meth c H locs 600000 7302250 (lw_Z below #[Value.ref b] s) (F0 m 990 ls []) := by
  obtain ⟨hx, hb, hr, hml, hown, hts, hX0, hbl, hlocks, hgv⟩ := id C0
  have hbA : ¬ lA s b := Nat.not_le.mpr hbl
  unfold w_law_990 at hq
  refine lv_aload_n hx hb dL_law_990 rfl (lv_at hl 1 rfl) ?_
  refine lv_aload_n hx hb dL_law_991 rfl (lv_at hl 0 rfl) ?_
  refine lv_iload_n hx hb dL_law_992 rfl (lv_at hl 3 rfl) ?_
  refine lv_iconst (v := 1) hx hb dL_law_993 (by decide) ?_
  refine lv_iadd hx hb dL_law_994 ?_
  refine va_sld hx hb hX0 hbl hbA hWc.2.2 hq.1 dL_law_995 ?_
  have hq := hq.2
  refine lv_aload_n hx hb dL_law_996 rfl (lv_at hl 0 rfl) ?_
  refine lv_iload_n hx hb dL_law_997 rfl (lv_at hl 3 rfl) ?_
  refine lv_iconst (v := 2) hx hb dL_law_998 (by decide) ?_
  refine lv_iadd hx hb dL_law_999 ?_
  refine va_sld hx hb hX0 hbl hbA hWc.2.2 hq.1 dL_law_1000 ?_
  have hq := hq.2
  refine k_li hWc hWm hdis (va_runV (As := [.int (xs (ix (x3 + 1))), .int (xs (ix (x3 + 2)))]) (rest := []) ⟨hx, hb, hml, hown, hts⟩ (c_X11_game l Gc hc (xs (ix (x3 + 1))) (xs (ix (x3 + 2))) _ hq) (cwV 2 hts (gL_V mw1127 mw1128 mw1129 mw2 mw1130) rfl rfl rfl (by decide +kernel) ⟨Nat.le_of_ble_eq_true rfl, Nat.le_of_ble_eq_true rfl⟩) (k_preV (hKC hK) hWc (shC_lt rfl (by decide)) (ceC_11 rfl) (q := (RX11, TX11, 11)) rfl) rfl rfl hl.1 rfl (lv_room (Nat.le_of_ble_eq_true rfl)) dL_law_1001 ⟨Nat.le_refl _, Nat.le_refl _⟩) (fun r139 h138 H locs hq hWc hWm => ?_)
  refine lv_aload_n hx hb dL_law_1004 rfl (lv_at hl 2 rfl) ?_
  refine lv_aload_n hx hb dL_law_1005 rfl (lv_at hl 0 rfl) ?_
  refine lv_iload_n hx hb dL_law_1006 rfl (lv_at hl 3 rfl) ?_
  refine lv_iconst (v := 1) hx hb dL_law_1007 (by decide) ?_
  refine lv_iadd hx hb dL_law_1008 ?_
  refine va_sld hx hb hX0 hbl hbA hWc.2.2 hq.1 dL_law_1009 ?_
  have hq := hq.2
  refine lv_aload_n hx hb dL_law_1010 rfl (lv_at hl 0 rfl) ?_
  refine lv_iload_n hx hb dL_law_1011 rfl (lv_at hl 3 rfl) ?_
  refine lv_iconst (v := 2) hx hb dL_law_1012 (by decide) ?_
  refine lv_iadd hx hb dL_law_1013 ?_
  refine va_sld hx hb hX0 hbl hbA hWc.2.2 hq.1 dL_law_1014 ?_
  have hq := hq.2
  refine k_li hWm hWc (fun q a b => hdis q b a) (va_runV (As := [.int (xs (ix (x3 + 1))), .int (xs (ix (x3 + 2)))]) (rest := [.int r139]) ⟨hx, hb, hml, hown, hts⟩ (c_X12_game l Gm hm (xs (ix (x3 + 1))) (xs (ix (x3 + 2))) _ hq) (cwV 2 hts (gL_V mw1147 mw1148 mw1149 mw5 mw1150) rfl rfl rfl (by decide +kernel) ⟨Nat.le_of_ble_eq_true rfl, Nat.le_of_ble_eq_true rfl⟩) (k_preV (hKM hK) hWm (shM_lt rfl (by decide)) (ceM_12 rfl) (q := (RX12, TX12, 73)) rfl) rfl rfl hl.1 rfl (lv_room (Nat.le_of_ble_eq_true rfl)) dL_law_1015 ⟨Nat.le_refl _, Nat.le_refl _⟩) (fun r141 h140 H locs hq hWm hWc => ?_)
  refine lv_icmp_eq (tgt := 1798) hx hb dL_law_1018 (by decide) (fun c142 => ?_) (fun c142 => ?_)
  · have hq := hq.1 c142
    obtain ⟨x3_143, ex3_143⟩ : ∃ y : Int32, y = x3 + 6 := ⟨_, rfl⟩
    have hq := hq x3_143 ex3_143
    refine lv_iinc (v := x3_143) (lv' := [(3, .int x3_143), (0, .ref b), (1, .ref (Gc.2.2 0)), (2, .ref (Gm.2.2 0))]) hx hb dL_law_1798 hl (k := 3) rfl (by rw [ex3_143]; rfl) (by decide) rfl (fun ls hl => ?_)
    refine lv_goto (tgt := 18) hx hb dL_law_1801 (by decide) ?_
    exact hX _ _ _ _ _ _ hWc hWm (lv_sub hl [1, 2, 3, 0] rfl) hq
  · have hq := hq.2 c142
    refine lv_iconst (v := 0) hx hb dL_law_1021 (by decide) ?_
    exact hq.elim
theorem k_law_1023 {p : Program} {l : Launch} {e : Env} {s : State} {m : MethodId} {below : List Frame} {meth : Method} {c : Code} {b L : Nat} {xs : Nat → Int32} {Gc Gm : wG} (hL : L ≤ 3072) (C0 : lw_At p s m meth c b L xs) (hK : kK Gc s ∧ kK Gm s) (hdis : ∀ q, aS SC Gc q → aS SM Gm q → False) {X : Int32 × hp × hp → Prop} (hX : ∀ (x3 : Int32) (hc hm : hp) (H : Heap) (locs : List Loc) (ls : Array Slot), kW SC Gc hc (lA s) s H locs → kW SM Gm hm (lA s) s H locs → lv_has ls 4 [(0, .ref b), (1, .ref (Gc.2.2 0)), (2, .ref (Gm.2.2 0)), (3, .int x3)] → X (x3, hc, hm) → W p l e room_1 s m #[Value.ref b] below meth c H locs 600000 7302250 (lw_Z below #[Value.ref b] s) (F0 m 18 ls [])) {x3 : Int32} {hc hm : hp} {H : Heap} {locs : List Loc} {ls : Array Slot} (hWc : kW SC Gc hc (lA s) s H locs) (hWm : kW SM Gm hm (lA s) s H locs) (hl : lv_has ls 4 [(0, .ref b), (1, .ref (Gc.2.2 0)), (2, .ref (Gm.2.2 0)), (3, .int x3)]) (hq : w_law_1023 L xs X x3 hc hm) : W p l e room_1 s m #[Value.ref b] below meth c H locs 600000 7302250 (lw_Z below #[Value.ref b] s) (F0 m 1023 ls []) := by
  obtain ⟨hx, hb, hr, hml, hown, hts, hX0, hbl, hlocks, hgv⟩ := id C0
  have hbA : ¬ lA s b := Nat.not_le.mpr hbl
  unfold w_law_1023 at hq
  refine lv_aload_n hx hb dL_law_1023 rfl (lv_at hl 1 rfl) ?_
  refine lv_aload_n hx hb dL_law_1024 rfl (lv_at hl 0 rfl) ?_
  refine lv_iload_n hx hb dL_law_1025 rfl (lv_at hl 3 rfl) ?_
  refine lv_iconst (v := 1) hx hb dL_law_1026 (by decide) ?_
  refine lv_iadd hx hb dL_law_1027 ?_
  refine va_sld hx hb hX0 hbl hbA hWc.2.2 hq.1 dL_law_1028 ?_
  have hq := hq.2
  refine lv_aload_n hx hb dL_law_1029 rfl (lv_at hl 0 rfl) ?_
  refine lv_iload_n hx hb dL_law_1030 rfl (lv_at hl 3 rfl) ?_
  refine lv_iconst (v := 2) hx hb dL_law_1031 (by decide) ?_
  refine lv_iadd hx hb dL_law_1032 ?_
  refine va_sld hx hb hX0 hbl hbA hWc.2.2 hq.1 dL_law_1033 ?_
  have hq := hq.2
  refine k_li hWc hWm hdis (va_runV (As := [.int (xs (ix (x3 + 1))), .int (xs (ix (x3 + 2)))]) (rest := []) ⟨hx, hb, hml, hown, hts⟩ (c_X11_bad l Gc hc (xs (ix (x3 + 1))) (xs (ix (x3 + 2))) _ hq) (cwV 2 hts (gL_V mw1162 mw1163 mw1164 mw2 mw1165) rfl rfl rfl (by decide +kernel) ⟨Nat.le_of_ble_eq_true rfl, Nat.le_of_ble_eq_true rfl⟩) (k_preV (hKC hK) hWc (shC_lt rfl (by decide)) (ceC_11 rfl) (q := (RX11, TX11, 11)) rfl) rfl rfl hl.1 rfl (lv_room (Nat.le_of_ble_eq_true rfl)) dL_law_1034 ⟨Nat.le_refl _, Nat.le_refl _⟩) (fun r145 h144 H locs hq hWc hWm => ?_)
  rw [hq.1] at hWc
  have hq := hq.2
  refine lv_aload_n hx hb dL_law_1037 rfl (lv_at hl 2 rfl) ?_
  refine lv_aload_n hx hb dL_law_1038 rfl (lv_at hl 0 rfl) ?_
  refine lv_iload_n hx hb dL_law_1039 rfl (lv_at hl 3 rfl) ?_
  refine lv_iconst (v := 1) hx hb dL_law_1040 (by decide) ?_
  refine lv_iadd hx hb dL_law_1041 ?_
  refine va_sld hx hb hX0 hbl hbA hWc.2.2 hq.1 dL_law_1042 ?_
  have hq := hq.2
  refine lv_aload_n hx hb dL_law_1043 rfl (lv_at hl 0 rfl) ?_
  refine lv_iload_n hx hb dL_law_1044 rfl (lv_at hl 3 rfl) ?_
  refine lv_iconst (v := 2) hx hb dL_law_1045 (by decide) ?_
  refine lv_iadd hx hb dL_law_1046 ?_
  refine va_sld hx hb hX0 hbl hbA hWc.2.2 hq.1 dL_law_1047 ?_
  have hq := hq.2
  refine k_li hWm hWc (fun q a b => hdis q b a) (va_runV (As := [.int (xs (ix (x3 + 1))), .int (xs (ix (x3 + 2)))]) (rest := [.int r145]) ⟨hx, hb, hml, hown, hts⟩ (c_X12_bad l Gm hm (xs (ix (x3 + 1))) (xs (ix (x3 + 2))) _ hq) (cwV 2 hts (gL_V mw1175 mw1176 mw1177 mw5 mw1178) rfl rfl rfl (by decide +kernel) ⟨Nat.le_of_ble_eq_true rfl, Nat.le_of_ble_eq_true rfl⟩) (k_preV (hKM hK) hWm (shM_lt rfl (by decide)) (ceM_12 rfl) (q := (RX12, TX12, 73)) rfl) rfl rfl hl.1 rfl (lv_room (Nat.le_of_ble_eq_true rfl)) dL_law_1048 ⟨Nat.le_refl _, Nat.le_refl _⟩) (fun r147 h146 H locs hq hWm hWc => ?_)
  rw [hq.1] at hWm
  have hq := hq.2
  refine lv_icmp_eq (tgt := 1798) hx hb dL_law_1051 (by decide) (fun c148 => ?_) (fun c148 => ?_)
  · have hq := hq.1 c148
    obtain ⟨x3_149, ex3_149⟩ : ∃ y : Int32, y = x3 + 6 := ⟨_, rfl⟩
    have hq := hq x3_149 ex3_149
    refine lv_iinc (v := x3_149) (lv' := [(3, .int x3_149), (0, .ref b), (1, .ref (Gc.2.2 0)), (2, .ref (Gm.2.2 0))]) hx hb dL_law_1798 hl (k := 3) rfl (by rw [ex3_149]; rfl) (by decide) rfl (fun ls hl => ?_)
    refine lv_goto (tgt := 18) hx hb dL_law_1801 (by decide) ?_
    exact hX _ _ _ _ _ _ hWc hWm (lv_sub hl [1, 2, 3, 0] rfl) hq
  · have hq := hq.2 c148
    refine lv_iconst (v := 0) hx hb dL_law_1054 (by decide) ?_
    exact hq.elim
theorem k_law_1056 {p : Program} {l : Launch} {e : Env} {s : State} {m : MethodId} {below : List Frame} {meth : Method} {c : Code} {b L : Nat} {xs : Nat → Int32} {Gc Gm : wG} (hL : L ≤ 3072) (C0 : lw_At p s m meth c b L xs) (hK : kK Gc s ∧ kK Gm s) (hdis : ∀ q, aS SC Gc q → aS SM Gm q → False) {X : Int32 × hp × hp → Prop} (hX : ∀ (x3 : Int32) (hc hm : hp) (H : Heap) (locs : List Loc) (ls : Array Slot), kW SC Gc hc (lA s) s H locs → kW SM Gm hm (lA s) s H locs → lv_has ls 4 [(0, .ref b), (1, .ref (Gc.2.2 0)), (2, .ref (Gm.2.2 0)), (3, .int x3)] → X (x3, hc, hm) → W p l e room_1 s m #[Value.ref b] below meth c H locs 600000 7302250 (lw_Z below #[Value.ref b] s) (F0 m 18 ls [])) {x3 : Int32} {hc hm : hp} {H : Heap} {locs : List Loc} {ls : Array Slot} (hWc : kW SC Gc hc (lA s) s H locs) (hWm : kW SM Gm hm (lA s) s H locs) (hl : lv_has ls 4 [(0, .ref b), (1, .ref (Gc.2.2 0)), (2, .ref (Gm.2.2 0)), (3, .int x3)]) (hq : w_law_1056 L xs X x3 hc hm) : W p l e room_1 s m #[Value.ref b] below meth c H locs 600000 7302250 (lw_Z below #[Value.ref b] s) (F0 m 1056 ls []) := by
  obtain ⟨hx, hb, hr, hml, hown, hts, hX0, hbl, hlocks, hgv⟩ := id C0
  have hbA : ¬ lA s b := Nat.not_le.mpr hbl
  unfold w_law_1056 at hq
  refine lv_aload_n hx hb dL_law_1056 rfl (lv_at hl 1 rfl) ?_
  refine lv_aload_n hx hb dL_law_1057 rfl (lv_at hl 0 rfl) ?_
  refine lv_iload_n hx hb dL_law_1058 rfl (lv_at hl 3 rfl) ?_
  refine lv_iconst (v := 1) hx hb dL_law_1059 (by decide) ?_
  refine lv_iadd hx hb dL_law_1060 ?_
  refine va_sld hx hb hX0 hbl hbA hWc.2.2 hq.1 dL_law_1061 ?_
  have hq := hq.2
  refine lv_aload_n hx hb dL_law_1062 rfl (lv_at hl 0 rfl) ?_
  refine lv_iload_n hx hb dL_law_1063 rfl (lv_at hl 3 rfl) ?_
  refine lv_iconst (v := 2) hx hb dL_law_1064 (by decide) ?_
  refine lv_iadd hx hb dL_law_1065 ?_
  refine va_sld hx hb hX0 hbl hbA hWc.2.2 hq.1 dL_law_1066 ?_
  have hq := hq.2
  refine k_li hWc hWm hdis (va_runV (As := [.int (xs (ix (x3 + 1))), .int (xs (ix (x3 + 2)))]) (rest := []) ⟨hx, hb, hml, hown, hts⟩ (c_X11_badSet l Gc hc (xs (ix (x3 + 1))) (xs (ix (x3 + 2))) _ hq) (cwV 2 hts (gL_V mw1184 mw1185 mw1186 mw2 mw1187) rfl rfl rfl (by decide +kernel) ⟨Nat.le_of_ble_eq_true rfl, Nat.le_of_ble_eq_true rfl⟩) (k_preV (hKC hK) hWc (shC_lt rfl (by decide)) (ceC_11 rfl) (q := (RX11, TX11, 11)) rfl) rfl rfl hl.1 rfl (lv_room (Nat.le_of_ble_eq_true rfl)) dL_law_1067 ⟨Nat.le_refl _, Nat.le_refl _⟩) (fun r151 h150 H locs hq hWc hWm => ?_)
  rw [hq.1] at hWc
  have hq := hq.2
  refine lv_aload_n hx hb dL_law_1070 rfl (lv_at hl 2 rfl) ?_
  refine lv_aload_n hx hb dL_law_1071 rfl (lv_at hl 0 rfl) ?_
  refine lv_iload_n hx hb dL_law_1072 rfl (lv_at hl 3 rfl) ?_
  refine lv_iconst (v := 1) hx hb dL_law_1073 (by decide) ?_
  refine lv_iadd hx hb dL_law_1074 ?_
  refine va_sld hx hb hX0 hbl hbA hWc.2.2 hq.1 dL_law_1075 ?_
  have hq := hq.2
  refine lv_aload_n hx hb dL_law_1076 rfl (lv_at hl 0 rfl) ?_
  refine lv_iload_n hx hb dL_law_1077 rfl (lv_at hl 3 rfl) ?_
  refine lv_iconst (v := 2) hx hb dL_law_1078 (by decide) ?_
  refine lv_iadd hx hb dL_law_1079 ?_
  refine va_sld hx hb hX0 hbl hbA hWc.2.2 hq.1 dL_law_1080 ?_
  have hq := hq.2
  refine k_li hWm hWc (fun q a b => hdis q b a) (va_runV (As := [.int (xs (ix (x3 + 1))), .int (xs (ix (x3 + 2)))]) (rest := [.int r151]) ⟨hx, hb, hml, hown, hts⟩ (c_X12_badSet l Gm hm (xs (ix (x3 + 1))) (xs (ix (x3 + 2))) _ hq) (cwV 2 hts (gL_V mw1192 mw1193 mw1194 mw5 mw1195) rfl rfl rfl (by decide +kernel) ⟨Nat.le_of_ble_eq_true rfl, Nat.le_of_ble_eq_true rfl⟩) (k_preV (hKM hK) hWm (shM_lt rfl (by decide)) (ceM_12 rfl) (q := (RX12, TX12, 73)) rfl) rfl rfl hl.1 rfl (lv_room (Nat.le_of_ble_eq_true rfl)) dL_law_1081 ⟨Nat.le_refl _, Nat.le_refl _⟩) (fun r153 h152 H locs hq hWm hWc => ?_)
  rw [hq.1] at hWm
  have hq := hq.2
  refine lv_icmp_eq (tgt := 1798) hx hb dL_law_1084 (by decide) (fun c154 => ?_) (fun c154 => ?_)
  · have hq := hq.1 c154
    obtain ⟨x3_155, ex3_155⟩ : ∃ y : Int32, y = x3 + 6 := ⟨_, rfl⟩
    have hq := hq x3_155 ex3_155
    refine lv_iinc (v := x3_155) (lv' := [(3, .int x3_155), (0, .ref b), (1, .ref (Gc.2.2 0)), (2, .ref (Gm.2.2 0))]) hx hb dL_law_1798 hl (k := 3) rfl (by rw [ex3_155]; rfl) (by decide) rfl (fun ls hl => ?_)
    refine lv_goto (tgt := 18) hx hb dL_law_1801 (by decide) ?_
    exact hX _ _ _ _ _ _ hWc hWm (lv_sub hl [1, 2, 3, 0] rfl) hq
  · have hq := hq.2 c154
    refine lv_iconst (v := 0) hx hb dL_law_1087 (by decide) ?_
    exact hq.elim
theorem k_law_1089 {p : Program} {l : Launch} {e : Env} {s : State} {m : MethodId} {below : List Frame} {meth : Method} {c : Code} {b L : Nat} {xs : Nat → Int32} {Gc Gm : wG} (hL : L ≤ 3072) (C0 : lw_At p s m meth c b L xs) (hK : kK Gc s ∧ kK Gm s) (hdis : ∀ q, aS SC Gc q → aS SM Gm q → False) {X : Int32 × hp × hp → Prop} (hX : ∀ (x3 : Int32) (hc hm : hp) (H : Heap) (locs : List Loc) (ls : Array Slot), kW SC Gc hc (lA s) s H locs → kW SM Gm hm (lA s) s H locs → lv_has ls 4 [(0, .ref b), (1, .ref (Gc.2.2 0)), (2, .ref (Gm.2.2 0)), (3, .int x3)] → X (x3, hc, hm) → W p l e room_1 s m #[Value.ref b] below meth c H locs 600000 7302250 (lw_Z below #[Value.ref b] s) (F0 m 18 ls [])) {x3 : Int32} {hc hm : hp} {H : Heap} {locs : List Loc} {ls : Array Slot} (hWc : kW SC Gc hc (lA s) s H locs) (hWm : kW SM Gm hm (lA s) s H locs) (hl : lv_has ls 4 [(0, .ref b), (1, .ref (Gc.2.2 0)), (2, .ref (Gm.2.2 0)), (3, .int x3)]) (hq : w_law_1089 L xs X x3 hc hm) : W p l e room_1 s m #[Value.ref b] below meth c H locs 600000 7302250 (lw_Z below #[Value.ref b] s) (F0 m 1089 ls []) := by
  obtain ⟨hx, hb, hr, hml, hown, hts, hX0, hbl, hlocks, hgv⟩ := id C0
  have hbA : ¬ lA s b := Nat.not_le.mpr hbl
  unfold w_law_1089 at hq
  refine lv_aload_n hx hb dL_law_1089 rfl (lv_at hl 1 rfl) ?_
  refine k_li hWc hWm hdis (va_runV (As := []) (rest := []) ⟨hx, hb, hml, hown, hts⟩ (c_X11_allTold l Gc hc _ hq) (cwV 0 hts (gL_V mw1196 mw1197 mw1198 mw2 mw1199) rfl rfl rfl (by decide +kernel) ⟨Nat.le_of_ble_eq_true rfl, Nat.le_of_ble_eq_true rfl⟩) (k_preV (hKC hK) hWc (shC_lt rfl (by decide)) (ceC_11 rfl) (q := (RX11, TX11, 11)) rfl) rfl rfl hl.1 rfl (lv_room (Nat.le_of_ble_eq_true rfl)) dL_law_1090 ⟨Nat.le_refl _, Nat.le_refl _⟩) (fun r157 h156 H locs hq hWc hWm => ?_)
  refine lv_aload_n hx hb dL_law_1093 rfl (lv_at hl 2 rfl) ?_
  refine k_li hWm hWc (fun q a b => hdis q b a) (va_runV (As := []) (rest := [.int r157]) ⟨hx, hb, hml, hown, hts⟩ (c_X12_allTold l Gm hm _ hq) (cwV 0 hts (gL_V mw1212 mw1213 mw1214 mw5 mw1215) rfl rfl rfl (by decide +kernel) ⟨Nat.le_of_ble_eq_true rfl, Nat.le_of_ble_eq_true rfl⟩) (k_preV (hKM hK) hWm (shM_lt rfl (by decide)) (ceM_12 rfl) (q := (RX12, TX12, 73)) rfl) rfl rfl hl.1 rfl (lv_room (Nat.le_of_ble_eq_true rfl)) dL_law_1094 ⟨Nat.le_refl _, Nat.le_refl _⟩) (fun r159 h158 H locs hq hWm hWc => ?_)
  rw [hq.1] at hWm
  have hq := hq.2
  refine lv_icmp_eq (tgt := 1798) hx hb dL_law_1097 (by decide) (fun c160 => ?_) (fun c160 => ?_)
  · have hq := hq.1 c160
    obtain ⟨x3_161, ex3_161⟩ : ∃ y : Int32, y = x3 + 6 := ⟨_, rfl⟩
    have hq := hq x3_161 ex3_161
    refine lv_iinc (v := x3_161) (lv' := [(3, .int x3_161), (0, .ref b), (1, .ref (Gc.2.2 0)), (2, .ref (Gm.2.2 0))]) hx hb dL_law_1798 hl (k := 3) rfl (by rw [ex3_161]; rfl) (by decide) rfl (fun ls hl => ?_)
    refine lv_goto (tgt := 18) hx hb dL_law_1801 (by decide) ?_
    exact hX _ _ _ _ _ _ hWc hWm (lv_sub hl [1, 2, 3, 0] rfl) hq
  · have hq := hq.2 c160
    refine lv_iconst (v := 0) hx hb dL_law_1100 (by decide) ?_
    exact hq.elim
theorem k_law_1102 {p : Program} {l : Launch} {e : Env} {s : State} {m : MethodId} {below : List Frame} {meth : Method} {c : Code} {b L : Nat} {xs : Nat → Int32} {Gc Gm : wG} (hL : L ≤ 3072) (C0 : lw_At p s m meth c b L xs) (hK : kK Gc s ∧ kK Gm s) (hdis : ∀ q, aS SC Gc q → aS SM Gm q → False) {X : Int32 × hp × hp → Prop} (hX : ∀ (x3 : Int32) (hc hm : hp) (H : Heap) (locs : List Loc) (ls : Array Slot), kW SC Gc hc (lA s) s H locs → kW SM Gm hm (lA s) s H locs → lv_has ls 4 [(0, .ref b), (1, .ref (Gc.2.2 0)), (2, .ref (Gm.2.2 0)), (3, .int x3)] → X (x3, hc, hm) → W p l e room_1 s m #[Value.ref b] below meth c H locs 600000 7302250 (lw_Z below #[Value.ref b] s) (F0 m 18 ls [])) {x3 : Int32} {hc hm : hp} {H : Heap} {locs : List Loc} {ls : Array Slot} (hWc : kW SC Gc hc (lA s) s H locs) (hWm : kW SM Gm hm (lA s) s H locs) (hl : lv_has ls 4 [(0, .ref b), (1, .ref (Gc.2.2 0)), (2, .ref (Gm.2.2 0)), (3, .int x3)]) (hq : w_law_1102 L xs X x3 hc hm) : W p l e room_1 s m #[Value.ref b] below meth c H locs 600000 7302250 (lw_Z below #[Value.ref b] s) (F0 m 1102 ls []) := by
  obtain ⟨hx, hb, hr, hml, hown, hts, hX0, hbl, hlocks, hgv⟩ := id C0
  have hbA : ¬ lA s b := Nat.not_le.mpr hbl
  unfold w_law_1102 at hq
  refine lv_aload_n hx hb dL_law_1102 rfl (lv_at hl 1 rfl) ?_
  refine lv_aload_n hx hb dL_law_1103 rfl (lv_at hl 0 rfl) ?_
  refine lv_iload_n hx hb dL_law_1104 rfl (lv_at hl 3 rfl) ?_
  refine lv_iconst (v := 1) hx hb dL_law_1105 (by decide) ?_
  refine lv_iadd hx hb dL_law_1106 ?_
  refine va_sld hx hb hX0 hbl hbA hWc.2.2 hq.1 dL_law_1107 ?_
  have hq := hq.2
  refine k_li hWc hWm hdis (va_runV (As := [.int (xs (ix (x3 + 1)))]) (rest := []) ⟨hx, hb, hml, hown, hts⟩ (c_X11_secret l Gc hc (xs (ix (x3 + 1))) _ hq) (cwV 1 hts (gL_V mw1216 mw1217 mw1218 mw2 mw1219) rfl rfl rfl (by decide +kernel) ⟨Nat.le_of_ble_eq_true rfl, Nat.le_of_ble_eq_true rfl⟩) (k_preV (hKC hK) hWc (shC_lt rfl (by decide)) (ceC_11 rfl) (q := (RX11, TX11, 11)) rfl) rfl rfl hl.1 rfl (lv_room (Nat.le_of_ble_eq_true rfl)) dL_law_1108 ⟨Nat.le_refl _, Nat.le_refl _⟩) (fun r163 h162 H locs hq hWc hWm => ?_)
  refine lv_aload_n hx hb dL_law_1111 rfl (lv_at hl 2 rfl) ?_
  refine lv_aload_n hx hb dL_law_1112 rfl (lv_at hl 0 rfl) ?_
  refine lv_iload_n hx hb dL_law_1113 rfl (lv_at hl 3 rfl) ?_
  refine lv_iconst (v := 1) hx hb dL_law_1114 (by decide) ?_
  refine lv_iadd hx hb dL_law_1115 ?_
  refine va_sld hx hb hX0 hbl hbA hWc.2.2 hq.1 dL_law_1116 ?_
  have hq := hq.2
  refine k_li hWm hWc (fun q a b => hdis q b a) (va_runV (As := [.int (xs (ix (x3 + 1)))]) (rest := [.int r163]) ⟨hx, hb, hml, hown, hts⟩ (c_X12_secret l Gm hm (xs (ix (x3 + 1))) _ hq) (cwV 1 hts (gL_V mw1262 mw1263 mw1264 mw5 mw1265) rfl rfl rfl (by decide +kernel) ⟨Nat.le_of_ble_eq_true rfl, Nat.le_of_ble_eq_true rfl⟩) (k_preV (hKM hK) hWm (shM_lt rfl (by decide)) (ceM_12 rfl) (q := (RX12, TX12, 73)) rfl) rfl rfl hl.1 rfl (lv_room (Nat.le_of_ble_eq_true rfl)) dL_law_1117 ⟨Nat.le_refl _, Nat.le_refl _⟩) (fun r165 h164 H locs hq hWm hWc => ?_)
  rw [hq.1] at hWm
  have hq := hq.2
  refine lv_icmp_eq (tgt := 1798) hx hb dL_law_1120 (by decide) (fun c166 => ?_) (fun c166 => ?_)
  · have hq := hq.1 c166
    obtain ⟨x3_167, ex3_167⟩ : ∃ y : Int32, y = x3 + 6 := ⟨_, rfl⟩
    have hq := hq x3_167 ex3_167
    refine lv_iinc (v := x3_167) (lv' := [(3, .int x3_167), (0, .ref b), (1, .ref (Gc.2.2 0)), (2, .ref (Gm.2.2 0))]) hx hb dL_law_1798 hl (k := 3) rfl (by rw [ex3_167]; rfl) (by decide) rfl (fun ls hl => ?_)
    refine lv_goto (tgt := 18) hx hb dL_law_1801 (by decide) ?_
    exact hX _ _ _ _ _ _ hWc hWm (lv_sub hl [1, 2, 3, 0] rfl) hq
  · have hq := hq.2 c166
    refine lv_iconst (v := 0) hx hb dL_law_1123 (by decide) ?_
    exact hq.elim
theorem k_law_1125 {p : Program} {l : Launch} {e : Env} {s : State} {m : MethodId} {below : List Frame} {meth : Method} {c : Code} {b L : Nat} {xs : Nat → Int32} {Gc Gm : wG} (hL : L ≤ 3072) (C0 : lw_At p s m meth c b L xs) (hK : kK Gc s ∧ kK Gm s) (hdis : ∀ q, aS SC Gc q → aS SM Gm q → False) {X : Int32 × hp × hp → Prop} (hX : ∀ (x3 : Int32) (hc hm : hp) (H : Heap) (locs : List Loc) (ls : Array Slot), kW SC Gc hc (lA s) s H locs → kW SM Gm hm (lA s) s H locs → lv_has ls 4 [(0, .ref b), (1, .ref (Gc.2.2 0)), (2, .ref (Gm.2.2 0)), (3, .int x3)] → X (x3, hc, hm) → W p l e room_1 s m #[Value.ref b] below meth c H locs 600000 7302250 (lw_Z below #[Value.ref b] s) (F0 m 18 ls [])) {x3 : Int32} {hc hm : hp} {H : Heap} {locs : List Loc} {ls : Array Slot} (hWc : kW SC Gc hc (lA s) s H locs) (hWm : kW SM Gm hm (lA s) s H locs) (hl : lv_has ls 4 [(0, .ref b), (1, .ref (Gc.2.2 0)), (2, .ref (Gm.2.2 0)), (3, .int x3)]) (hq : w_law_1125 L xs X x3 hc hm) : W p l e room_1 s m #[Value.ref b] below meth c H locs 600000 7302250 (lw_Z below #[Value.ref b] s) (F0 m 1125 ls []) := by
  obtain ⟨hx, hb, hr, hml, hown, hts, hX0, hbl, hlocks, hgv⟩ := id C0
  have hbA : ¬ lA s b := Nat.not_le.mpr hbl
  unfold w_law_1125 at hq
  refine lv_aload_n hx hb dL_law_1125 rfl (lv_at hl 1 rfl) ?_
  refine lv_aload_n hx hb dL_law_1126 rfl (lv_at hl 0 rfl) ?_
  refine lv_iload_n hx hb dL_law_1127 rfl (lv_at hl 3 rfl) ?_
  refine lv_iconst (v := 1) hx hb dL_law_1128 (by decide) ?_
  refine lv_iadd hx hb dL_law_1129 ?_
  refine va_sld hx hb hX0 hbl hbA hWc.2.2 hq.1 dL_law_1130 ?_
  have hq := hq.2
  refine lv_aload_n hx hb dL_law_1131 rfl (lv_at hl 0 rfl) ?_
  refine lv_iload_n hx hb dL_law_1132 rfl (lv_at hl 3 rfl) ?_
  refine lv_iconst (v := 2) hx hb dL_law_1133 (by decide) ?_
  refine lv_iadd hx hb dL_law_1134 ?_
  refine va_sld hx hb hX0 hbl hbA hWc.2.2 hq.1 dL_law_1135 ?_
  have hq := hq.2
  refine k_li hWc hWm hdis (va_runV (As := [.int (xs (ix (x3 + 1))), .int (xs (ix (x3 + 2)))]) (rest := []) ⟨hx, hb, hml, hown, hts⟩ (c_X11_shared l Gc hc (xs (ix (x3 + 1))) (xs (ix (x3 + 2))) _ hq) (cwV 2 hts (gL_V mw1285 mw1286 mw1287 mw2 mw1288) rfl rfl rfl (by decide +kernel) ⟨Nat.le_of_ble_eq_true rfl, Nat.le_of_ble_eq_true rfl⟩) (k_preV (hKC hK) hWc (shC_lt rfl (by decide)) (ceC_11 rfl) (q := (RX11, TX11, 11)) rfl) rfl rfl hl.1 rfl (lv_room (Nat.le_of_ble_eq_true rfl)) dL_law_1136 ⟨Nat.le_refl _, Nat.le_refl _⟩) (fun r169 h168 H locs hq hWc hWm => ?_)
  refine lv_aload_n hx hb dL_law_1139 rfl (lv_at hl 2 rfl) ?_
  refine lv_aload_n hx hb dL_law_1140 rfl (lv_at hl 0 rfl) ?_
  refine lv_iload_n hx hb dL_law_1141 rfl (lv_at hl 3 rfl) ?_
  refine lv_iconst (v := 1) hx hb dL_law_1142 (by decide) ?_
  refine lv_iadd hx hb dL_law_1143 ?_
  refine va_sld hx hb hX0 hbl hbA hWc.2.2 hq.1 dL_law_1144 ?_
  have hq := hq.2
  refine lv_aload_n hx hb dL_law_1145 rfl (lv_at hl 0 rfl) ?_
  refine lv_iload_n hx hb dL_law_1146 rfl (lv_at hl 3 rfl) ?_
  refine lv_iconst (v := 2) hx hb dL_law_1147 (by decide) ?_
  refine lv_iadd hx hb dL_law_1148 ?_
  refine va_sld hx hb hX0 hbl hbA hWc.2.2 hq.1 dL_law_1149 ?_
  have hq := hq.2
  refine k_li hWm hWc (fun q a b => hdis q b a) (va_runV (As := [.int (xs (ix (x3 + 1))), .int (xs (ix (x3 + 2)))]) (rest := [.int r169]) ⟨hx, hb, hml, hown, hts⟩ (c_X12_shared l Gm hm (xs (ix (x3 + 1))) (xs (ix (x3 + 2))) _ hq) (cwV 2 hts (gL_V mw1294 mw1295 mw1296 mw5 mw1297) rfl rfl rfl (by decide +kernel) ⟨Nat.le_of_ble_eq_true rfl, Nat.le_of_ble_eq_true rfl⟩) (k_preV (hKM hK) hWm (shM_lt rfl (by decide)) (ceM_12 rfl) (q := (RX12, TX12, 73)) rfl) rfl rfl hl.1 rfl (lv_room (Nat.le_of_ble_eq_true rfl)) dL_law_1150 ⟨Nat.le_refl _, Nat.le_refl _⟩) (fun r171 h170 H locs hq hWm hWc => ?_)
  rw [hq.1] at hWm
  have hq := hq.2
  refine lv_icmp_eq (tgt := 1798) hx hb dL_law_1153 (by decide) (fun c172 => ?_) (fun c172 => ?_)
  · have hq := hq.1 c172
    obtain ⟨x3_173, ex3_173⟩ : ∃ y : Int32, y = x3 + 6 := ⟨_, rfl⟩
    have hq := hq x3_173 ex3_173
    refine lv_iinc (v := x3_173) (lv' := [(3, .int x3_173), (0, .ref b), (1, .ref (Gc.2.2 0)), (2, .ref (Gm.2.2 0))]) hx hb dL_law_1798 hl (k := 3) rfl (by rw [ex3_173]; rfl) (by decide) rfl (fun ls hl => ?_)
    refine lv_goto (tgt := 18) hx hb dL_law_1801 (by decide) ?_
    exact hX _ _ _ _ _ _ hWc hWm (lv_sub hl [1, 2, 3, 0] rfl) hq
  · have hq := hq.2 c172
    refine lv_iconst (v := 0) hx hb dL_law_1156 (by decide) ?_
    exact hq.elim
theorem k_law_1158 {p : Program} {l : Launch} {e : Env} {s : State} {m : MethodId} {below : List Frame} {meth : Method} {c : Code} {b L : Nat} {xs : Nat → Int32} {Gc Gm : wG} (hL : L ≤ 3072) (C0 : lw_At p s m meth c b L xs) (hK : kK Gc s ∧ kK Gm s) (hdis : ∀ q, aS SC Gc q → aS SM Gm q → False) {X : Int32 × hp × hp → Prop} (hX : ∀ (x3 : Int32) (hc hm : hp) (H : Heap) (locs : List Loc) (ls : Array Slot), kW SC Gc hc (lA s) s H locs → kW SM Gm hm (lA s) s H locs → lv_has ls 4 [(0, .ref b), (1, .ref (Gc.2.2 0)), (2, .ref (Gm.2.2 0)), (3, .int x3)] → X (x3, hc, hm) → W p l e room_1 s m #[Value.ref b] below meth c H locs 600000 7302250 (lw_Z below #[Value.ref b] s) (F0 m 18 ls [])) {x3 : Int32} {hc hm : hp} {H : Heap} {locs : List Loc} {ls : Array Slot} (hWc : kW SC Gc hc (lA s) s H locs) (hWm : kW SM Gm hm (lA s) s H locs) (hl : lv_has ls 4 [(0, .ref b), (1, .ref (Gc.2.2 0)), (2, .ref (Gm.2.2 0)), (3, .int x3)]) (hq : w_law_1158 L xs X x3 hc hm) : W p l e room_1 s m #[Value.ref b] below meth c H locs 600000 7302250 (lw_Z below #[Value.ref b] s) (F0 m 1158 ls []) := by
  obtain ⟨hx, hb, hr, hml, hown, hts, hX0, hbl, hlocks, hgv⟩ := id C0
  have hbA : ¬ lA s b := Nat.not_le.mpr hbl
  unfold w_law_1158 at hq
  refine lv_aload_n hx hb dL_law_1158 rfl (lv_at hl 1 rfl) ?_
  refine lv_aload_n hx hb dL_law_1159 rfl (lv_at hl 0 rfl) ?_
  refine lv_iload_n hx hb dL_law_1160 rfl (lv_at hl 3 rfl) ?_
  refine lv_iconst (v := 1) hx hb dL_law_1161 (by decide) ?_
  refine lv_iadd hx hb dL_law_1162 ?_
  refine va_sld hx hb hX0 hbl hbA hWc.2.2 hq.1 dL_law_1163 ?_
  have hq := hq.2
  refine k_li hWc hWm hdis (va_runV (As := [.int (xs (ix (x3 + 1)))]) (rest := []) ⟨hx, hb, hml, hown, hts⟩ (c_X11_wrong l Gc hc (xs (ix (x3 + 1))) _ hq) (cwV 1 hts (gL_V mw1299 mw1300 mw1301 mw2 mw1302) rfl rfl rfl (by decide +kernel) ⟨Nat.le_of_ble_eq_true rfl, Nat.le_of_ble_eq_true rfl⟩) (k_preV (hKC hK) hWc (shC_lt rfl (by decide)) (ceC_11 rfl) (q := (RX11, TX11, 11)) rfl) rfl rfl hl.1 rfl (lv_room (Nat.le_of_ble_eq_true rfl)) dL_law_1164 ⟨Nat.le_refl _, Nat.le_refl _⟩) (fun r175 h174 H locs hq hWc hWm => ?_)
  refine lv_aload_n hx hb dL_law_1167 rfl (lv_at hl 2 rfl) ?_
  refine lv_aload_n hx hb dL_law_1168 rfl (lv_at hl 0 rfl) ?_
  refine lv_iload_n hx hb dL_law_1169 rfl (lv_at hl 3 rfl) ?_
  refine lv_iconst (v := 1) hx hb dL_law_1170 (by decide) ?_
  refine lv_iadd hx hb dL_law_1171 ?_
  refine va_sld hx hb hX0 hbl hbA hWc.2.2 hq.1 dL_law_1172 ?_
  have hq := hq.2
  refine k_li hWm hWc (fun q a b => hdis q b a) (va_runV (As := [.int (xs (ix (x3 + 1)))]) (rest := [.int r175]) ⟨hx, hb, hml, hown, hts⟩ (c_X12_wrong l Gm hm (xs (ix (x3 + 1))) _ hq) (cwV 1 hts (gL_V mw1315 mw1316 mw1317 mw5 mw1318) rfl rfl rfl (by decide +kernel) ⟨Nat.le_of_ble_eq_true rfl, Nat.le_of_ble_eq_true rfl⟩) (k_preV (hKM hK) hWm (shM_lt rfl (by decide)) (ceM_12 rfl) (q := (RX12, TX12, 73)) rfl) rfl rfl hl.1 rfl (lv_room (Nat.le_of_ble_eq_true rfl)) dL_law_1173 ⟨Nat.le_refl _, Nat.le_refl _⟩) (fun r177 h176 H locs hq hWm hWc => ?_)
  rw [hq.1] at hWm
  have hq := hq.2
  refine lv_icmp_eq (tgt := 1798) hx hb dL_law_1176 (by decide) (fun c178 => ?_) (fun c178 => ?_)
  · have hq := hq.1 c178
    obtain ⟨x3_179, ex3_179⟩ : ∃ y : Int32, y = x3 + 6 := ⟨_, rfl⟩
    have hq := hq x3_179 ex3_179
    refine lv_iinc (v := x3_179) (lv' := [(3, .int x3_179), (0, .ref b), (1, .ref (Gc.2.2 0)), (2, .ref (Gm.2.2 0))]) hx hb dL_law_1798 hl (k := 3) rfl (by rw [ex3_179]; rfl) (by decide) rfl (fun ls hl => ?_)
    refine lv_goto (tgt := 18) hx hb dL_law_1801 (by decide) ?_
    exact hX _ _ _ _ _ _ hWc hWm (lv_sub hl [1, 2, 3, 0] rfl) hq
  · have hq := hq.2 c178
    refine lv_iconst (v := 0) hx hb dL_law_1179 (by decide) ?_
    exact hq.elim
theorem k_law_1181 {p : Program} {l : Launch} {e : Env} {s : State} {m : MethodId} {below : List Frame} {meth : Method} {c : Code} {b L : Nat} {xs : Nat → Int32} {Gc Gm : wG} (hL : L ≤ 3072) (C0 : lw_At p s m meth c b L xs) (hK : kK Gc s ∧ kK Gm s) (hdis : ∀ q, aS SC Gc q → aS SM Gm q → False) {X : Int32 × hp × hp → Prop} (hX : ∀ (x3 : Int32) (hc hm : hp) (H : Heap) (locs : List Loc) (ls : Array Slot), kW SC Gc hc (lA s) s H locs → kW SM Gm hm (lA s) s H locs → lv_has ls 4 [(0, .ref b), (1, .ref (Gc.2.2 0)), (2, .ref (Gm.2.2 0)), (3, .int x3)] → X (x3, hc, hm) → W p l e room_1 s m #[Value.ref b] below meth c H locs 600000 7302250 (lw_Z below #[Value.ref b] s) (F0 m 18 ls [])) {x3 : Int32} {hc hm : hp} {H : Heap} {locs : List Loc} {ls : Array Slot} (hWc : kW SC Gc hc (lA s) s H locs) (hWm : kW SM Gm hm (lA s) s H locs) (hl : lv_has ls 4 [(0, .ref b), (1, .ref (Gc.2.2 0)), (2, .ref (Gm.2.2 0)), (3, .int x3)]) (hq : w_law_1181 L xs X x3 hc hm) : W p l e room_1 s m #[Value.ref b] below meth c H locs 600000 7302250 (lw_Z below #[Value.ref b] s) (F0 m 1181 ls []) := by
  obtain ⟨hx, hb, hr, hml, hown, hts, hX0, hbl, hlocks, hgv⟩ := id C0
  have hbA : ¬ lA s b := Nat.not_le.mpr hbl
  unfold w_law_1181 at hq
  refine lv_aload_n hx hb dL_law_1181 rfl (lv_at hl 1 rfl) ?_
  refine lv_aload_n hx hb dL_law_1182 rfl (lv_at hl 0 rfl) ?_
  refine lv_iload_n hx hb dL_law_1183 rfl (lv_at hl 3 rfl) ?_
  refine lv_iconst (v := 1) hx hb dL_law_1184 (by decide) ?_
  refine lv_iadd hx hb dL_law_1185 ?_
  refine va_sld hx hb hX0 hbl hbA hWc.2.2 hq.1 dL_law_1186 ?_
  have hq := hq.2
  refine k_li hWc hWm hdis (va_runV (As := [.int (xs (ix (x3 + 1)))]) (rest := []) ⟨hx, hb, hml, hown, hts⟩ (c_X11_hide l Gc hc (xs (ix (x3 + 1))) _ hq) (cwV 1 hts (gL_V mw1319 mw1320 mw1321 mw2 mw1322) rfl rfl rfl (by decide +kernel) ⟨Nat.le_of_ble_eq_true rfl, Nat.le_of_ble_eq_true rfl⟩) (k_preV (hKC hK) hWc (shC_lt rfl (by decide)) (ceC_11 rfl) (q := (RX11, TX11, 11)) rfl) rfl rfl hl.1 rfl (lv_room (Nat.le_of_ble_eq_true rfl)) dL_law_1187 ⟨Nat.le_refl _, Nat.le_refl _⟩) (fun r181 h180 H locs hq hWc hWm => ?_)
  refine lv_aload_n hx hb dL_law_1190 rfl (lv_at hl 2 rfl) ?_
  refine lv_aload_n hx hb dL_law_1191 rfl (lv_at hl 0 rfl) ?_
  refine lv_iload_n hx hb dL_law_1192 rfl (lv_at hl 3 rfl) ?_
  refine lv_iconst (v := 1) hx hb dL_law_1193 (by decide) ?_
  refine lv_iadd hx hb dL_law_1194 ?_
  refine va_sld hx hb hX0 hbl hbA hWc.2.2 hq.1 dL_law_1195 ?_
  have hq := hq.2
  refine k_li hWm hWc (fun q a b => hdis q b a) (va_runV (As := [.int (xs (ix (x3 + 1)))]) (rest := [.int r181]) ⟨hx, hb, hml, hown, hts⟩ (c_X12_hide l Gm hm (xs (ix (x3 + 1))) _ hq) (cwV 1 hts (gL_V mw1323 mw1324 mw1325 mw5 mw1326) rfl rfl rfl (by decide +kernel) ⟨Nat.le_of_ble_eq_true rfl, Nat.le_of_ble_eq_true rfl⟩) (k_preV (hKM hK) hWm (shM_lt rfl (by decide)) (ceM_12 rfl) (q := (RX12, TX12, 73)) rfl) rfl rfl hl.1 rfl (lv_room (Nat.le_of_ble_eq_true rfl)) dL_law_1196 ⟨Nat.le_refl _, Nat.le_refl _⟩) (fun r183 h182 H locs hq hWm hWc => ?_)
  refine lv_icmp_eq (tgt := 1798) hx hb dL_law_1199 (by decide) (fun c184 => ?_) (fun c184 => ?_)
  · have hq := hq.1 c184
    obtain ⟨x3_185, ex3_185⟩ : ∃ y : Int32, y = x3 + 6 := ⟨_, rfl⟩
    have hq := hq x3_185 ex3_185
    refine lv_iinc (v := x3_185) (lv' := [(3, .int x3_185), (0, .ref b), (1, .ref (Gc.2.2 0)), (2, .ref (Gm.2.2 0))]) hx hb dL_law_1798 hl (k := 3) rfl (by rw [ex3_185]; rfl) (by decide) rfl (fun ls hl => ?_)
    refine lv_goto (tgt := 18) hx hb dL_law_1801 (by decide) ?_
    exact hX _ _ _ _ _ _ hWc hWm (lv_sub hl [1, 2, 3, 0] rfl) hq
  · have hq := hq.2 c184
    refine lv_iconst (v := 0) hx hb dL_law_1202 (by decide) ?_
    exact hq.elim
theorem k_law_1204 {p : Program} {l : Launch} {e : Env} {s : State} {m : MethodId} {below : List Frame} {meth : Method} {c : Code} {b L : Nat} {xs : Nat → Int32} {Gc Gm : wG} (hL : L ≤ 3072) (C0 : lw_At p s m meth c b L xs) (hK : kK Gc s ∧ kK Gm s) (hdis : ∀ q, aS SC Gc q → aS SM Gm q → False) {X : Int32 × hp × hp → Prop} (hX : ∀ (x3 : Int32) (hc hm : hp) (H : Heap) (locs : List Loc) (ls : Array Slot), kW SC Gc hc (lA s) s H locs → kW SM Gm hm (lA s) s H locs → lv_has ls 4 [(0, .ref b), (1, .ref (Gc.2.2 0)), (2, .ref (Gm.2.2 0)), (3, .int x3)] → X (x3, hc, hm) → W p l e room_1 s m #[Value.ref b] below meth c H locs 600000 7302250 (lw_Z below #[Value.ref b] s) (F0 m 18 ls [])) {x3 : Int32} {hc hm : hp} {H : Heap} {locs : List Loc} {ls : Array Slot} (hWc : kW SC Gc hc (lA s) s H locs) (hWm : kW SM Gm hm (lA s) s H locs) (hl : lv_has ls 4 [(0, .ref b), (1, .ref (Gc.2.2 0)), (2, .ref (Gm.2.2 0)), (3, .int x3)]) (hq : w_law_1204 L xs X x3 hc hm) : W p l e room_1 s m #[Value.ref b] below meth c H locs 600000 7302250 (lw_Z below #[Value.ref b] s) (F0 m 1204 ls []) := by
  obtain ⟨hx, hb, hr, hml, hown, hts, hX0, hbl, hlocks, hgv⟩ := id C0
  have hbA : ¬ lA s b := Nat.not_le.mpr hbl
  unfold w_law_1204 at hq
  refine lv_aload_n hx hb dL_law_1204 rfl (lv_at hl 1 rfl) ?_
  refine lv_aload_n hx hb dL_law_1205 rfl (lv_at hl 0 rfl) ?_
  refine lv_iload_n hx hb dL_law_1206 rfl (lv_at hl 3 rfl) ?_
  refine lv_iconst (v := 1) hx hb dL_law_1207 (by decide) ?_
  refine lv_iadd hx hb dL_law_1208 ?_
  refine va_sld hx hb hX0 hbl hbA hWc.2.2 hq.1 dL_law_1209 ?_
  have hq := hq.2
  refine k_ll hWc hWm hdis (va_runV (As := [.int (xs (ix (x3 + 1)))]) (rest := []) ⟨hx, hb, hml, hown, hts⟩ (c_X11_ask l Gc hc (xs (ix (x3 + 1))) _ hq) (cwV 1 hts (gL_V mw1327 mw1328 mw1329 mw2 mw1330) rfl rfl rfl (by decide +kernel) ⟨Nat.le_of_ble_eq_true rfl, Nat.le_of_ble_eq_true rfl⟩) (k_preV (hKC hK) hWc (shC_lt rfl (by decide)) (ceC_11 rfl) (q := (RX11, TX11, 11)) rfl) rfl rfl hl.1 rfl (lv_room (Nat.le_of_ble_eq_true rfl)) dL_law_1210 ⟨Nat.le_refl _, Nat.le_refl _⟩) (fun r187 h186 H locs hq hWc hWm => ?_)
  refine lv_aload_n hx hb dL_law_1213 rfl (lv_at hl 2 rfl) ?_
  refine lv_aload_n hx hb dL_law_1214 rfl (lv_at hl 0 rfl) ?_
  refine lv_iload_n hx hb dL_law_1215 rfl (lv_at hl 3 rfl) ?_
  refine lv_iconst (v := 1) hx hb dL_law_1216 (by decide) ?_
  refine lv_iadd hx hb dL_law_1217 ?_
  refine va_sld hx hb hX0 hbl hbA hWc.2.2 hq.1 dL_law_1218 ?_
  have hq := hq.2
  refine k_ll hWm hWc (fun q a b => hdis q b a) (va_runV (As := [.int (xs (ix (x3 + 1)))]) (rest := [.long r187]) ⟨hx, hb, hml, hown, hts⟩ (c_X12_ask l Gm hm (xs (ix (x3 + 1))) _ hq) (cwV 1 hts (gL_V mw1332 mw1333 mw1334 mw5 mw1335) rfl rfl rfl (by decide +kernel) ⟨Nat.le_of_ble_eq_true rfl, Nat.le_of_ble_eq_true rfl⟩) (k_preV (hKM hK) hWm (shM_lt rfl (by decide)) (ceM_12 rfl) (q := (RX12, TX12, 73)) rfl) rfl rfl hl.1 rfl (lv_room (Nat.le_of_ble_eq_true rfl)) dL_law_1219 ⟨Nat.le_refl _, Nat.le_refl _⟩) (fun r189 h188 H locs hq hWm hWc => ?_)
  refine W.lcmp hx hb dL_law_1222 ?_
  refine lv_if_eq (tgt := 1798) hx hb dL_law_1223 (by decide) (fun c190 => ?_) (fun c190 => ?_)
  · have hq := hq.1 ((lg_cmp_eq _ _).mp c190)
    obtain ⟨x3_191, ex3_191⟩ : ∃ y : Int32, y = x3 + 6 := ⟨_, rfl⟩
    have hq := hq x3_191 ex3_191
    refine lv_iinc (v := x3_191) (lv' := [(3, .int x3_191), (0, .ref b), (1, .ref (Gc.2.2 0)), (2, .ref (Gm.2.2 0))]) hx hb dL_law_1798 hl (k := 3) rfl (by rw [ex3_191]; rfl) (by decide) rfl (fun ls hl => ?_)
    refine lv_goto (tgt := 18) hx hb dL_law_1801 (by decide) ?_
    exact hX _ _ _ _ _ _ hWc hWm (lv_sub hl [1, 2, 3, 0] rfl) hq
  · have hq := hq.2 (fun z => c190 ((lg_cmp_eq _ _).mpr z))
    refine lv_iconst (v := 0) hx hb dL_law_1226 (by decide) ?_
    exact hq.elim
theorem k_law_1228 {p : Program} {l : Launch} {e : Env} {s : State} {m : MethodId} {below : List Frame} {meth : Method} {c : Code} {b L : Nat} {xs : Nat → Int32} {Gc Gm : wG} (hL : L ≤ 3072) (C0 : lw_At p s m meth c b L xs) (hK : kK Gc s ∧ kK Gm s) (hdis : ∀ q, aS SC Gc q → aS SM Gm q → False) {X : Int32 × hp × hp → Prop} (hX : ∀ (x3 : Int32) (hc hm : hp) (H : Heap) (locs : List Loc) (ls : Array Slot), kW SC Gc hc (lA s) s H locs → kW SM Gm hm (lA s) s H locs → lv_has ls 4 [(0, .ref b), (1, .ref (Gc.2.2 0)), (2, .ref (Gm.2.2 0)), (3, .int x3)] → X (x3, hc, hm) → W p l e room_1 s m #[Value.ref b] below meth c H locs 600000 7302250 (lw_Z below #[Value.ref b] s) (F0 m 18 ls [])) {x3 : Int32} {hc hm : hp} {H : Heap} {locs : List Loc} {ls : Array Slot} (hWc : kW SC Gc hc (lA s) s H locs) (hWm : kW SM Gm hm (lA s) s H locs) (hl : lv_has ls 4 [(0, .ref b), (1, .ref (Gc.2.2 0)), (2, .ref (Gm.2.2 0)), (3, .int x3)]) (hq : w_law_1228 L xs X x3 hc hm) : W p l e room_1 s m #[Value.ref b] below meth c H locs 600000 7302250 (lw_Z below #[Value.ref b] s) (F0 m 1228 ls []) := by
  obtain ⟨hx, hb, hr, hml, hown, hts, hX0, hbl, hlocks, hgv⟩ := id C0
  have hbA : ¬ lA s b := Nat.not_le.mpr hbl
  unfold w_law_1228 at hq
  refine lv_aload_n hx hb dL_law_1228 rfl (lv_at hl 1 rfl) ?_
  refine k_li hWc hWm hdis (va_runV (As := []) (rest := []) ⟨hx, hb, hml, hown, hts⟩ (c_X11_asks l Gc hc _ hq) (cwV 0 hts (gL_V mw1336 mw1337 mw1338 mw2 mw1339) rfl rfl rfl (by decide +kernel) ⟨Nat.le_of_ble_eq_true rfl, Nat.le_of_ble_eq_true rfl⟩) (k_preV (hKC hK) hWc (shC_lt rfl (by decide)) (ceC_11 rfl) (q := (RX11, TX11, 11)) rfl) rfl rfl hl.1 rfl (lv_room (Nat.le_of_ble_eq_true rfl)) dL_law_1229 ⟨Nat.le_refl _, Nat.le_refl _⟩) (fun r193 h192 H locs hq hWc hWm => ?_)
  refine lv_aload_n hx hb dL_law_1232 rfl (lv_at hl 2 rfl) ?_
  refine k_li hWm hWc (fun q a b => hdis q b a) (va_runV (As := []) (rest := [.int r193]) ⟨hx, hb, hml, hown, hts⟩ (c_X12_asks l Gm hm _ hq) (cwV 0 hts (gL_V mw1342 mw1343 mw1344 mw5 mw1345) rfl rfl rfl (by decide +kernel) ⟨Nat.le_of_ble_eq_true rfl, Nat.le_of_ble_eq_true rfl⟩) (k_preV (hKM hK) hWm (shM_lt rfl (by decide)) (ceM_12 rfl) (q := (RX12, TX12, 73)) rfl) rfl rfl hl.1 rfl (lv_room (Nat.le_of_ble_eq_true rfl)) dL_law_1233 ⟨Nat.le_refl _, Nat.le_refl _⟩) (fun r195 h194 H locs hq hWm hWc => ?_)
  refine lv_icmp_eq (tgt := 1798) hx hb dL_law_1236 (by decide) (fun c196 => ?_) (fun c196 => ?_)
  · have hq := hq.1 c196
    obtain ⟨x3_197, ex3_197⟩ : ∃ y : Int32, y = x3 + 6 := ⟨_, rfl⟩
    have hq := hq x3_197 ex3_197
    refine lv_iinc (v := x3_197) (lv' := [(3, .int x3_197), (0, .ref b), (1, .ref (Gc.2.2 0)), (2, .ref (Gm.2.2 0))]) hx hb dL_law_1798 hl (k := 3) rfl (by rw [ex3_197]; rfl) (by decide) rfl (fun ls hl => ?_)
    refine lv_goto (tgt := 18) hx hb dL_law_1801 (by decide) ?_
    exact hX _ _ _ _ _ _ hWc hWm (lv_sub hl [1, 2, 3, 0] rfl) hq
  · have hq := hq.2 c196
    refine lv_iconst (v := 0) hx hb dL_law_1239 (by decide) ?_
    exact hq.elim
theorem k_law_1241 {p : Program} {l : Launch} {e : Env} {s : State} {m : MethodId} {below : List Frame} {meth : Method} {c : Code} {b L : Nat} {xs : Nat → Int32} {Gc Gm : wG} (hL : L ≤ 3072) (C0 : lw_At p s m meth c b L xs) (hK : kK Gc s ∧ kK Gm s) (hdis : ∀ q, aS SC Gc q → aS SM Gm q → False) {X : Int32 × hp × hp → Prop} (hX : ∀ (x3 : Int32) (hc hm : hp) (H : Heap) (locs : List Loc) (ls : Array Slot), kW SC Gc hc (lA s) s H locs → kW SM Gm hm (lA s) s H locs → lv_has ls 4 [(0, .ref b), (1, .ref (Gc.2.2 0)), (2, .ref (Gm.2.2 0)), (3, .int x3)] → X (x3, hc, hm) → W p l e room_1 s m #[Value.ref b] below meth c H locs 600000 7302250 (lw_Z below #[Value.ref b] s) (F0 m 18 ls [])) {x3 : Int32} {hc hm : hp} {H : Heap} {locs : List Loc} {ls : Array Slot} (hWc : kW SC Gc hc (lA s) s H locs) (hWm : kW SM Gm hm (lA s) s H locs) (hl : lv_has ls 4 [(0, .ref b), (1, .ref (Gc.2.2 0)), (2, .ref (Gm.2.2 0)), (3, .int x3)]) (hq : w_law_1241 L xs X x3 hc hm) : W p l e room_1 s m #[Value.ref b] below meth c H locs 600000 7302250 (lw_Z below #[Value.ref b] s) (F0 m 1241 ls []) := by
  obtain ⟨hx, hb, hr, hml, hown, hts, hX0, hbl, hlocks, hgv⟩ := id C0
  have hbA : ¬ lA s b := Nat.not_le.mpr hbl
  unfold w_law_1241 at hq
  refine lv_aload_n hx hb dL_law_1241 rfl (lv_at hl 1 rfl) ?_
  refine lv_aload_n hx hb dL_law_1242 rfl (lv_at hl 0 rfl) ?_
  refine lv_iload_n hx hb dL_law_1243 rfl (lv_at hl 3 rfl) ?_
  refine lv_iconst (v := 1) hx hb dL_law_1244 (by decide) ?_
  refine lv_iadd hx hb dL_law_1245 ?_
  refine va_sld hx hb hX0 hbl hbA hWc.2.2 hq.1 dL_law_1246 ?_
  have hq := hq.2
  refine lv_aload_n hx hb dL_law_1247 rfl (lv_at hl 0 rfl) ?_
  refine lv_iload_n hx hb dL_law_1248 rfl (lv_at hl 3 rfl) ?_
  refine lv_iconst (v := 2) hx hb dL_law_1249 (by decide) ?_
  refine lv_iadd hx hb dL_law_1250 ?_
  refine va_sld hx hb hX0 hbl hbA hWc.2.2 hq.1 dL_law_1251 ?_
  have hq := hq.2
  refine lv_aload_n hx hb dL_law_1252 rfl (lv_at hl 0 rfl) ?_
  refine lv_iload_n hx hb dL_law_1253 rfl (lv_at hl 3 rfl) ?_
  refine lv_iconst (v := 3) hx hb dL_law_1254 (by decide) ?_
  refine lv_iadd hx hb dL_law_1255 ?_
  refine va_sld hx hb hX0 hbl hbA hWc.2.2 hq.1 dL_law_1256 ?_
  have hq := hq.2
  refine k_li hWc hWm hdis (va_runV (As := [.int (xs (ix (x3 + 1))), .int (xs (ix (x3 + 2))), .int (xs (ix (x3 + 3)))]) (rest := []) ⟨hx, hb, hml, hown, hts⟩ (c_X11_enough l Gc hc (xs (ix (x3 + 1))) (xs (ix (x3 + 2))) (xs (ix (x3 + 3))) _ hq) (cwV 3 hts (gL_V mw1346 mw1347 mw1348 mw2 mw1349) rfl rfl rfl (by decide +kernel) ⟨Nat.le_of_ble_eq_true rfl, Nat.le_of_ble_eq_true rfl⟩) (k_preV (hKC hK) hWc (shC_lt rfl (by decide)) (ceC_11 rfl) (q := (RX11, TX11, 11)) rfl) rfl rfl hl.1 rfl (lv_room (Nat.le_of_ble_eq_true rfl)) dL_law_1257 ⟨Nat.le_refl _, Nat.le_refl _⟩) (fun r199 h198 H locs hq hWc hWm => ?_)
  refine lv_aload_n hx hb dL_law_1260 rfl (lv_at hl 2 rfl) ?_
  refine lv_aload_n hx hb dL_law_1261 rfl (lv_at hl 0 rfl) ?_
  refine lv_iload_n hx hb dL_law_1262 rfl (lv_at hl 3 rfl) ?_
  refine lv_iconst (v := 1) hx hb dL_law_1263 (by decide) ?_
  refine lv_iadd hx hb dL_law_1264 ?_
  refine va_sld hx hb hX0 hbl hbA hWc.2.2 hq.1 dL_law_1265 ?_
  have hq := hq.2
  refine lv_aload_n hx hb dL_law_1266 rfl (lv_at hl 0 rfl) ?_
  refine lv_iload_n hx hb dL_law_1267 rfl (lv_at hl 3 rfl) ?_
  refine lv_iconst (v := 2) hx hb dL_law_1268 (by decide) ?_
  refine lv_iadd hx hb dL_law_1269 ?_
  refine va_sld hx hb hX0 hbl hbA hWc.2.2 hq.1 dL_law_1270 ?_
  have hq := hq.2
  refine lv_aload_n hx hb dL_law_1271 rfl (lv_at hl 0 rfl) ?_
  refine lv_iload_n hx hb dL_law_1272 rfl (lv_at hl 3 rfl) ?_
  refine lv_iconst (v := 3) hx hb dL_law_1273 (by decide) ?_
  refine lv_iadd hx hb dL_law_1274 ?_
  refine va_sld hx hb hX0 hbl hbA hWc.2.2 hq.1 dL_law_1275 ?_
  have hq := hq.2
  refine k_li hWm hWc (fun q a b => hdis q b a) (va_runV (As := [.int (xs (ix (x3 + 1))), .int (xs (ix (x3 + 2))), .int (xs (ix (x3 + 3)))]) (rest := [.int r199]) ⟨hx, hb, hml, hown, hts⟩ (c_X12_enough l Gm hm (xs (ix (x3 + 1))) (xs (ix (x3 + 2))) (xs (ix (x3 + 3))) _ hq) (cwV 3 hts (gL_V mw1374 mw1375 mw1376 mw5 mw1377) rfl rfl rfl (by decide +kernel) ⟨Nat.le_of_ble_eq_true rfl, Nat.le_of_ble_eq_true rfl⟩) (k_preV (hKM hK) hWm (shM_lt rfl (by decide)) (ceM_12 rfl) (q := (RX12, TX12, 73)) rfl) rfl rfl hl.1 rfl (lv_room (Nat.le_of_ble_eq_true rfl)) dL_law_1276 ⟨Nat.le_refl _, Nat.le_refl _⟩) (fun r201 h200 H locs hq hWm hWc => ?_)
  refine lv_icmp_eq (tgt := 1798) hx hb dL_law_1279 (by decide) (fun c202 => ?_) (fun c202 => ?_)
  · have hq := hq.1 c202
    obtain ⟨x3_203, ex3_203⟩ : ∃ y : Int32, y = x3 + 6 := ⟨_, rfl⟩
    have hq := hq x3_203 ex3_203
    refine lv_iinc (v := x3_203) (lv' := [(3, .int x3_203), (0, .ref b), (1, .ref (Gc.2.2 0)), (2, .ref (Gm.2.2 0))]) hx hb dL_law_1798 hl (k := 3) rfl (by rw [ex3_203]; rfl) (by decide) rfl (fun ls hl => ?_)
    refine lv_goto (tgt := 18) hx hb dL_law_1801 (by decide) ?_
    exact hX _ _ _ _ _ _ hWc hWm (lv_sub hl [1, 2, 3, 0] rfl) hq
  · have hq := hq.2 c202
    refine lv_iconst (v := 0) hx hb dL_law_1282 (by decide) ?_
    exact hq.elim
theorem k_law_1284 {p : Program} {l : Launch} {e : Env} {s : State} {m : MethodId} {below : List Frame} {meth : Method} {c : Code} {b L : Nat} {xs : Nat → Int32} {Gc Gm : wG} (hL : L ≤ 3072) (C0 : lw_At p s m meth c b L xs) (hK : kK Gc s ∧ kK Gm s) (hdis : ∀ q, aS SC Gc q → aS SM Gm q → False) {X : Int32 × hp × hp → Prop} (hX : ∀ (x3 : Int32) (hc hm : hp) (H : Heap) (locs : List Loc) (ls : Array Slot), kW SC Gc hc (lA s) s H locs → kW SM Gm hm (lA s) s H locs → lv_has ls 4 [(0, .ref b), (1, .ref (Gc.2.2 0)), (2, .ref (Gm.2.2 0)), (3, .int x3)] → X (x3, hc, hm) → W p l e room_1 s m #[Value.ref b] below meth c H locs 600000 7302250 (lw_Z below #[Value.ref b] s) (F0 m 18 ls [])) {x3 : Int32} {hc hm : hp} {H : Heap} {locs : List Loc} {ls : Array Slot} (hWc : kW SC Gc hc (lA s) s H locs) (hWm : kW SM Gm hm (lA s) s H locs) (hl : lv_has ls 4 [(0, .ref b), (1, .ref (Gc.2.2 0)), (2, .ref (Gm.2.2 0)), (3, .int x3)]) (hq : w_law_1284 L xs X x3 hc hm) : W p l e room_1 s m #[Value.ref b] below meth c H locs 600000 7302250 (lw_Z below #[Value.ref b] s) (F0 m 1284 ls []) := by
  obtain ⟨hx, hb, hr, hml, hown, hts, hX0, hbl, hlocks, hgv⟩ := id C0
  have hbA : ¬ lA s b := Nat.not_le.mpr hbl
  unfold w_law_1284 at hq
  refine lv_aload_n hx hb dL_law_1284 rfl (lv_at hl 1 rfl) ?_
  refine lv_aload_n hx hb dL_law_1285 rfl (lv_at hl 0 rfl) ?_
  refine lv_iload_n hx hb dL_law_1286 rfl (lv_at hl 3 rfl) ?_
  refine lv_iconst (v := 1) hx hb dL_law_1287 (by decide) ?_
  refine lv_iadd hx hb dL_law_1288 ?_
  refine va_sld hx hb hX0 hbl hbA hWc.2.2 hq.1 dL_law_1289 ?_
  have hq := hq.2
  refine lv_aload_n hx hb dL_law_1290 rfl (lv_at hl 0 rfl) ?_
  refine lv_iload_n hx hb dL_law_1291 rfl (lv_at hl 3 rfl) ?_
  refine lv_iconst (v := 2) hx hb dL_law_1292 (by decide) ?_
  refine lv_iadd hx hb dL_law_1293 ?_
  refine va_sld hx hb hX0 hbl hbA hWc.2.2 hq.1 dL_law_1294 ?_
  have hq := hq.2
  refine k_li hWc hWm hdis (va_runV (As := [.int (xs (ix (x3 + 1))), .int (xs (ix (x3 + 2)))]) (rest := []) ⟨hx, hb, hml, hown, hts⟩ (c_X11_shareRow l Gc hc (xs (ix (x3 + 1))) (xs (ix (x3 + 2))) _ hq) (cwV 2 hts (gL_V mw1386 mw1221 mw1222 mw2 mw1223) rfl rfl rfl (by decide +kernel) ⟨Nat.le_of_ble_eq_true rfl, Nat.le_of_ble_eq_true rfl⟩) (k_preV (hKC hK) hWc (shC_lt rfl (by decide)) (ceC_11 rfl) (q := (RX11, TX11, 11)) rfl) rfl rfl hl.1 rfl (lv_room (Nat.le_of_ble_eq_true rfl)) dL_law_1295 ⟨Nat.le_refl _, Nat.le_refl _⟩) (fun r205 h204 H locs hq hWc hWm => ?_)
  refine lv_aload_n hx hb dL_law_1298 rfl (lv_at hl 2 rfl) ?_
  refine lv_aload_n hx hb dL_law_1299 rfl (lv_at hl 0 rfl) ?_
  refine lv_iload_n hx hb dL_law_1300 rfl (lv_at hl 3 rfl) ?_
  refine lv_iconst (v := 1) hx hb dL_law_1301 (by decide) ?_
  refine lv_iadd hx hb dL_law_1302 ?_
  refine va_sld hx hb hX0 hbl hbA hWc.2.2 hq.1 dL_law_1303 ?_
  have hq := hq.2
  refine lv_aload_n hx hb dL_law_1304 rfl (lv_at hl 0 rfl) ?_
  refine lv_iload_n hx hb dL_law_1305 rfl (lv_at hl 3 rfl) ?_
  refine lv_iconst (v := 2) hx hb dL_law_1306 (by decide) ?_
  refine lv_iadd hx hb dL_law_1307 ?_
  refine va_sld hx hb hX0 hbl hbA hWc.2.2 hq.1 dL_law_1308 ?_
  have hq := hq.2
  refine k_li hWm hWc (fun q a b => hdis q b a) (va_runV (As := [.int (xs (ix (x3 + 1))), .int (xs (ix (x3 + 2)))]) (rest := [.int r205]) ⟨hx, hb, hml, hown, hts⟩ (c_X12_shareRow l Gm hm (xs (ix (x3 + 1))) (xs (ix (x3 + 2))) _ hq) (cwV 2 hts (gL_V mw1387 mw1388 mw1389 mw5 mw1390) rfl rfl rfl (by decide +kernel) ⟨Nat.le_of_ble_eq_true rfl, Nat.le_of_ble_eq_true rfl⟩) (k_preV (hKM hK) hWm (shM_lt rfl (by decide)) (ceM_12 rfl) (q := (RX12, TX12, 73)) rfl) rfl rfl hl.1 rfl (lv_room (Nat.le_of_ble_eq_true rfl)) dL_law_1309 ⟨Nat.le_refl _, Nat.le_refl _⟩) (fun r207 h206 H locs hq hWm hWc => ?_)
  refine lv_icmp_eq (tgt := 1798) hx hb dL_law_1312 (by decide) (fun c208 => ?_) (fun c208 => ?_)
  · have hq := hq.1 c208
    obtain ⟨x3_209, ex3_209⟩ : ∃ y : Int32, y = x3 + 6 := ⟨_, rfl⟩
    have hq := hq x3_209 ex3_209
    refine lv_iinc (v := x3_209) (lv' := [(3, .int x3_209), (0, .ref b), (1, .ref (Gc.2.2 0)), (2, .ref (Gm.2.2 0))]) hx hb dL_law_1798 hl (k := 3) rfl (by rw [ex3_209]; rfl) (by decide) rfl (fun ls hl => ?_)
    refine lv_goto (tgt := 18) hx hb dL_law_1801 (by decide) ?_
    exact hX _ _ _ _ _ _ hWc hWm (lv_sub hl [1, 2, 3, 0] rfl) hq
  · have hq := hq.2 c208
    refine lv_iconst (v := 0) hx hb dL_law_1315 (by decide) ?_
    exact hq.elim
theorem k_law_1317 {p : Program} {l : Launch} {e : Env} {s : State} {m : MethodId} {below : List Frame} {meth : Method} {c : Code} {b L : Nat} {xs : Nat → Int32} {Gc Gm : wG} (hL : L ≤ 3072) (C0 : lw_At p s m meth c b L xs) (hK : kK Gc s ∧ kK Gm s) (hdis : ∀ q, aS SC Gc q → aS SM Gm q → False) {X : Int32 × hp × hp → Prop} (hX : ∀ (x3 : Int32) (hc hm : hp) (H : Heap) (locs : List Loc) (ls : Array Slot), kW SC Gc hc (lA s) s H locs → kW SM Gm hm (lA s) s H locs → lv_has ls 4 [(0, .ref b), (1, .ref (Gc.2.2 0)), (2, .ref (Gm.2.2 0)), (3, .int x3)] → X (x3, hc, hm) → W p l e room_1 s m #[Value.ref b] below meth c H locs 600000 7302250 (lw_Z below #[Value.ref b] s) (F0 m 18 ls [])) {x3 : Int32} {hc hm : hp} {H : Heap} {locs : List Loc} {ls : Array Slot} (hWc : kW SC Gc hc (lA s) s H locs) (hWm : kW SM Gm hm (lA s) s H locs) (hl : lv_has ls 4 [(0, .ref b), (1, .ref (Gc.2.2 0)), (2, .ref (Gm.2.2 0)), (3, .int x3)]) (hq : w_law_1317 L xs X x3 hc hm) : W p l e room_1 s m #[Value.ref b] below meth c H locs 600000 7302250 (lw_Z below #[Value.ref b] s) (F0 m 1317 ls []) := by
  obtain ⟨hx, hb, hr, hml, hown, hts, hX0, hbl, hlocks, hgv⟩ := id C0
  have hbA : ¬ lA s b := Nat.not_le.mpr hbl
  unfold w_law_1317 at hq
  refine lv_aload_n hx hb dL_law_1317 rfl (lv_at hl 1 rfl) ?_
  refine lv_aload_n hx hb dL_law_1318 rfl (lv_at hl 0 rfl) ?_
  refine lv_iload_n hx hb dL_law_1319 rfl (lv_at hl 3 rfl) ?_
  refine lv_iconst (v := 1) hx hb dL_law_1320 (by decide) ?_
  refine lv_iadd hx hb dL_law_1321 ?_
  refine va_sld hx hb hX0 hbl hbA hWc.2.2 hq.1 dL_law_1322 ?_
  have hq := hq.2
  refine k_li hWc hWm hdis (va_runV (As := [.int (xs (ix (x3 + 1)))]) (rest := []) ⟨hx, hb, hml, hown, hts⟩ (c_X11_cost l Gc hc (xs (ix (x3 + 1))) _ hq) (cwV 1 hts (gL_V mw1395 mw1396 mw1397 mw2 mw1398) rfl rfl rfl (by decide +kernel) ⟨Nat.le_of_ble_eq_true rfl, Nat.le_of_ble_eq_true rfl⟩) (k_preV (hKC hK) hWc (shC_lt rfl (by decide)) (ceC_11 rfl) (q := (RX11, TX11, 11)) rfl) rfl rfl hl.1 rfl (lv_room (Nat.le_of_ble_eq_true rfl)) dL_law_1323 ⟨Nat.le_refl _, Nat.le_refl _⟩) (fun r211 h210 H locs hq hWc hWm => ?_)
  rw [hq.1] at hWc
  have hq := hq.2
  refine lv_aload_n hx hb dL_law_1326 rfl (lv_at hl 2 rfl) ?_
  refine lv_aload_n hx hb dL_law_1327 rfl (lv_at hl 0 rfl) ?_
  refine lv_iload_n hx hb dL_law_1328 rfl (lv_at hl 3 rfl) ?_
  refine lv_iconst (v := 1) hx hb dL_law_1329 (by decide) ?_
  refine lv_iadd hx hb dL_law_1330 ?_
  refine va_sld hx hb hX0 hbl hbA hWc.2.2 hq.1 dL_law_1331 ?_
  have hq := hq.2
  refine k_li hWm hWc (fun q a b => hdis q b a) (va_runV (As := [.int (xs (ix (x3 + 1)))]) (rest := [.int r211]) ⟨hx, hb, hml, hown, hts⟩ (c_X12_cost l Gm hm (xs (ix (x3 + 1))) _ hq) (cwV 1 hts (gL_V mw1399 mw1400 mw1401 mw5 mw1402) rfl rfl rfl (by decide +kernel) ⟨Nat.le_of_ble_eq_true rfl, Nat.le_of_ble_eq_true rfl⟩) (k_preV (hKM hK) hWm (shM_lt rfl (by decide)) (ceM_12 rfl) (q := (RX12, TX12, 73)) rfl) rfl rfl hl.1 rfl (lv_room (Nat.le_of_ble_eq_true rfl)) dL_law_1332 ⟨Nat.le_refl _, Nat.le_refl _⟩) (fun r213 h212 H locs hq hWm hWc => ?_)
  rw [hq.1] at hWm
  have hq := hq.2
  refine lv_icmp_eq (tgt := 1798) hx hb dL_law_1335 (by decide) (fun c214 => ?_) (fun c214 => ?_)
  · have hq := hq.1 c214
    obtain ⟨x3_215, ex3_215⟩ : ∃ y : Int32, y = x3 + 6 := ⟨_, rfl⟩
    have hq := hq x3_215 ex3_215
    refine lv_iinc (v := x3_215) (lv' := [(3, .int x3_215), (0, .ref b), (1, .ref (Gc.2.2 0)), (2, .ref (Gm.2.2 0))]) hx hb dL_law_1798 hl (k := 3) rfl (by rw [ex3_215]; rfl) (by decide) rfl (fun ls hl => ?_)
    refine lv_goto (tgt := 18) hx hb dL_law_1801 (by decide) ?_
    exact hX _ _ _ _ _ _ hWc hWm (lv_sub hl [1, 2, 3, 0] rfl) hq
  · have hq := hq.2 c214
    refine lv_iconst (v := 0) hx hb dL_law_1338 (by decide) ?_
    exact hq.elim
theorem k_law_1340 {p : Program} {l : Launch} {e : Env} {s : State} {m : MethodId} {below : List Frame} {meth : Method} {c : Code} {b L : Nat} {xs : Nat → Int32} {Gc Gm : wG} (hL : L ≤ 3072) (C0 : lw_At p s m meth c b L xs) (hK : kK Gc s ∧ kK Gm s) (hdis : ∀ q, aS SC Gc q → aS SM Gm q → False) {X : Int32 × hp × hp → Prop} (hX : ∀ (x3 : Int32) (hc hm : hp) (H : Heap) (locs : List Loc) (ls : Array Slot), kW SC Gc hc (lA s) s H locs → kW SM Gm hm (lA s) s H locs → lv_has ls 4 [(0, .ref b), (1, .ref (Gc.2.2 0)), (2, .ref (Gm.2.2 0)), (3, .int x3)] → X (x3, hc, hm) → W p l e room_1 s m #[Value.ref b] below meth c H locs 600000 7302250 (lw_Z below #[Value.ref b] s) (F0 m 18 ls [])) {x3 : Int32} {hc hm : hp} {H : Heap} {locs : List Loc} {ls : Array Slot} (hWc : kW SC Gc hc (lA s) s H locs) (hWm : kW SM Gm hm (lA s) s H locs) (hl : lv_has ls 4 [(0, .ref b), (1, .ref (Gc.2.2 0)), (2, .ref (Gm.2.2 0)), (3, .int x3)]) (hq : w_law_1340 L xs X x3 hc hm) : W p l e room_1 s m #[Value.ref b] below meth c H locs 600000 7302250 (lw_Z below #[Value.ref b] s) (F0 m 1340 ls []) := by
  obtain ⟨hx, hb, hr, hml, hown, hts, hX0, hbl, hlocks, hgv⟩ := id C0
  have hbA : ¬ lA s b := Nat.not_le.mpr hbl
  unfold w_law_1340 at hq
  refine lv_aload_n hx hb dL_law_1340 rfl (lv_at hl 1 rfl) ?_
  refine lv_aload_n hx hb dL_law_1341 rfl (lv_at hl 0 rfl) ?_
  refine lv_iload_n hx hb dL_law_1342 rfl (lv_at hl 3 rfl) ?_
  refine lv_iconst (v := 1) hx hb dL_law_1343 (by decide) ?_
  refine lv_iadd hx hb dL_law_1344 ?_
  refine va_sld hx hb hX0 hbl hbA hWc.2.2 hq.1 dL_law_1345 ?_
  have hq := hq.2
  refine k_li hWc hWm hdis (va_runV (As := [.int (xs (ix (x3 + 1)))]) (rest := []) ⟨hx, hb, hml, hown, hts⟩ (c_X11_degree l Gc hc (xs (ix (x3 + 1))) _ hq) (cwV 1 hts (gL_V mw1403 mw1404 mw1405 mw2 mw1406) rfl rfl rfl (by decide +kernel) ⟨Nat.le_of_ble_eq_true rfl, Nat.le_of_ble_eq_true rfl⟩) (k_preV (hKC hK) hWc (shC_lt rfl (by decide)) (ceC_11 rfl) (q := (RX11, TX11, 11)) rfl) rfl rfl hl.1 rfl (lv_room (Nat.le_of_ble_eq_true rfl)) dL_law_1346 ⟨Nat.le_refl _, Nat.le_refl _⟩) (fun r217 h216 H locs hq hWc hWm => ?_)
  rw [hq.1] at hWc
  have hq := hq.2
  refine lv_aload_n hx hb dL_law_1349 rfl (lv_at hl 2 rfl) ?_
  refine lv_aload_n hx hb dL_law_1350 rfl (lv_at hl 0 rfl) ?_
  refine lv_iload_n hx hb dL_law_1351 rfl (lv_at hl 3 rfl) ?_
  refine lv_iconst (v := 1) hx hb dL_law_1352 (by decide) ?_
  refine lv_iadd hx hb dL_law_1353 ?_
  refine va_sld hx hb hX0 hbl hbA hWc.2.2 hq.1 dL_law_1354 ?_
  have hq := hq.2
  refine k_li hWm hWc (fun q a b => hdis q b a) (va_runV (As := [.int (xs (ix (x3 + 1)))]) (rest := [.int r217]) ⟨hx, hb, hml, hown, hts⟩ (c_X12_degree l Gm hm (xs (ix (x3 + 1))) _ hq) (cwV 1 hts (gL_V mw1407 mw1408 mw1409 mw5 mw1410) rfl rfl rfl (by decide +kernel) ⟨Nat.le_of_ble_eq_true rfl, Nat.le_of_ble_eq_true rfl⟩) (k_preV (hKM hK) hWm (shM_lt rfl (by decide)) (ceM_12 rfl) (q := (RX12, TX12, 73)) rfl) rfl rfl hl.1 rfl (lv_room (Nat.le_of_ble_eq_true rfl)) dL_law_1355 ⟨Nat.le_refl _, Nat.le_refl _⟩) (fun r219 h218 H locs hq hWm hWc => ?_)
  rw [hq.1] at hWm
  have hq := hq.2
  refine lv_icmp_eq (tgt := 1798) hx hb dL_law_1358 (by decide) (fun c220 => ?_) (fun c220 => ?_)
  · have hq := hq.1 c220
    obtain ⟨x3_221, ex3_221⟩ : ∃ y : Int32, y = x3 + 6 := ⟨_, rfl⟩
    have hq := hq x3_221 ex3_221
    refine lv_iinc (v := x3_221) (lv' := [(3, .int x3_221), (0, .ref b), (1, .ref (Gc.2.2 0)), (2, .ref (Gm.2.2 0))]) hx hb dL_law_1798 hl (k := 3) rfl (by rw [ex3_221]; rfl) (by decide) rfl (fun ls hl => ?_)
    refine lv_goto (tgt := 18) hx hb dL_law_1801 (by decide) ?_
    exact hX _ _ _ _ _ _ hWc hWm (lv_sub hl [1, 2, 3, 0] rfl) hq
  · have hq := hq.2 c220
    refine lv_iconst (v := 0) hx hb dL_law_1361 (by decide) ?_
    exact hq.elim
theorem k_law_1363 {p : Program} {l : Launch} {e : Env} {s : State} {m : MethodId} {below : List Frame} {meth : Method} {c : Code} {b L : Nat} {xs : Nat → Int32} {Gc Gm : wG} (hL : L ≤ 3072) (C0 : lw_At p s m meth c b L xs) (hK : kK Gc s ∧ kK Gm s) (hdis : ∀ q, aS SC Gc q → aS SM Gm q → False) {X : Int32 × hp × hp → Prop} (hX : ∀ (x3 : Int32) (hc hm : hp) (H : Heap) (locs : List Loc) (ls : Array Slot), kW SC Gc hc (lA s) s H locs → kW SM Gm hm (lA s) s H locs → lv_has ls 4 [(0, .ref b), (1, .ref (Gc.2.2 0)), (2, .ref (Gm.2.2 0)), (3, .int x3)] → X (x3, hc, hm) → W p l e room_1 s m #[Value.ref b] below meth c H locs 600000 7302250 (lw_Z below #[Value.ref b] s) (F0 m 18 ls [])) {x3 : Int32} {hc hm : hp} {H : Heap} {locs : List Loc} {ls : Array Slot} (hWc : kW SC Gc hc (lA s) s H locs) (hWm : kW SM Gm hm (lA s) s H locs) (hl : lv_has ls 4 [(0, .ref b), (1, .ref (Gc.2.2 0)), (2, .ref (Gm.2.2 0)), (3, .int x3)]) (hq : w_law_1363 L xs X x3 hc hm) : W p l e room_1 s m #[Value.ref b] below meth c H locs 600000 7302250 (lw_Z below #[Value.ref b] s) (F0 m 1363 ls []) := by
  obtain ⟨hx, hb, hr, hml, hown, hts, hX0, hbl, hlocks, hgv⟩ := id C0
  have hbA : ¬ lA s b := Nat.not_le.mpr hbl
  unfold w_law_1363 at hq
  refine lv_aload_n hx hb dL_law_1363 rfl (lv_at hl 1 rfl) ?_
  refine lv_aload_n hx hb dL_law_1364 rfl (lv_at hl 0 rfl) ?_
  refine lv_iload_n hx hb dL_law_1365 rfl (lv_at hl 3 rfl) ?_
  refine lv_iconst (v := 1) hx hb dL_law_1366 (by decide) ?_
  refine lv_iadd hx hb dL_law_1367 ?_
  refine va_sld hx hb hX0 hbl hbA hWc.2.2 hq.1 dL_law_1368 ?_
  have hq := hq.2
  refine lv_aload_n hx hb dL_law_1369 rfl (lv_at hl 0 rfl) ?_
  refine lv_iload_n hx hb dL_law_1370 rfl (lv_at hl 3 rfl) ?_
  refine lv_iconst (v := 2) hx hb dL_law_1371 (by decide) ?_
  refine lv_iadd hx hb dL_law_1372 ?_
  refine va_sld hx hb hX0 hbl hbA hWc.2.2 hq.1 dL_law_1373 ?_
  have hq := hq.2
  refine lv_i2l (v := (xs (ix (x3 + 2))).toInt64) hx hb dL_law_1374 rfl ?_
  refine lv_bipush (v := 32) hx hb dL_law_1375 (by decide) ?_
  refine k_lshl hx hb dL_law_1377 ?_
  refine lv_aload_n hx hb dL_law_1378 rfl (lv_at hl 0 rfl) ?_
  refine lv_iload_n hx hb dL_law_1379 rfl (lv_at hl 3 rfl) ?_
  refine lv_iconst (v := 3) hx hb dL_law_1380 (by decide) ?_
  refine lv_iadd hx hb dL_law_1381 ?_
  refine va_sld hx hb hX0 hbl hbA hWc.2.2 hq.1 dL_law_1382 ?_
  have hq := hq.2
  refine lv_i2l (v := (xs (ix (x3 + 3))).toInt64) hx hb dL_law_1383 rfl ?_
  refine lv_ldc2 (v := 4294967295) hx hb hown (hts _ (twU _ mw6)) dL_law_1384 ?_
  refine lv_land hx hb dL_law_1387 ?_
  refine lv_lor hx hb dL_law_1388 ?_
  refine k_li hWc hWm hdis (va_runV (As := [.int (xs (ix (x3 + 1))), .long ((lshl ((xs (ix (x3 + 2))).toInt64) 32) ||| (((xs (ix (x3 + 3))).toInt64) &&& 4294967295))]) (rest := []) ⟨hx, hb, hml, hown, hts⟩ (c_X11_worldsAt l Gc hc (xs (ix (x3 + 1))) ((lshl ((xs (ix (x3 + 2))).toInt64) 32) ||| (((xs (ix (x3 + 3))).toInt64) &&& 4294967295)) _ hq) (cwV 2 hts (gL_V mw1411 mw1412 mw1413 mw2 mw1414) rfl rfl rfl (by decide +kernel) ⟨Nat.le_of_ble_eq_true rfl, Nat.le_of_ble_eq_true rfl⟩) (k_preV (hKC hK) hWc (shC_lt rfl (by decide)) (ceC_11 rfl) (q := (RX11, TX11, 11)) rfl) rfl rfl hl.1 rfl (lv_room (Nat.le_of_ble_eq_true rfl)) dL_law_1389 ⟨Nat.le_refl _, Nat.le_refl _⟩) (fun r223 h222 H locs hq hWc hWm => ?_)
  refine lv_aload_n hx hb dL_law_1392 rfl (lv_at hl 2 rfl) ?_
  refine lv_aload_n hx hb dL_law_1393 rfl (lv_at hl 0 rfl) ?_
  refine lv_iload_n hx hb dL_law_1394 rfl (lv_at hl 3 rfl) ?_
  refine lv_iconst (v := 1) hx hb dL_law_1395 (by decide) ?_
  refine lv_iadd hx hb dL_law_1396 ?_
  refine va_sld hx hb hX0 hbl hbA hWc.2.2 hq.1 dL_law_1397 ?_
  have hq := hq.2
  refine lv_aload_n hx hb dL_law_1398 rfl (lv_at hl 0 rfl) ?_
  refine lv_iload_n hx hb dL_law_1399 rfl (lv_at hl 3 rfl) ?_
  refine lv_iconst (v := 2) hx hb dL_law_1400 (by decide) ?_
  refine lv_iadd hx hb dL_law_1401 ?_
  refine va_sld hx hb hX0 hbl hbA hWc.2.2 hq.1 dL_law_1402 ?_
  have hq := hq.2
  refine lv_i2l (v := (xs (ix (x3 + 2))).toInt64) hx hb dL_law_1403 rfl ?_
  refine lv_bipush (v := 32) hx hb dL_law_1404 (by decide) ?_
  refine k_lshl hx hb dL_law_1406 ?_
  refine lv_aload_n hx hb dL_law_1407 rfl (lv_at hl 0 rfl) ?_
  refine lv_iload_n hx hb dL_law_1408 rfl (lv_at hl 3 rfl) ?_
  refine lv_iconst (v := 3) hx hb dL_law_1409 (by decide) ?_
  refine lv_iadd hx hb dL_law_1410 ?_
  refine va_sld hx hb hX0 hbl hbA hWc.2.2 hq.1 dL_law_1411 ?_
  have hq := hq.2
  refine lv_i2l (v := (xs (ix (x3 + 3))).toInt64) hx hb dL_law_1412 rfl ?_
  refine lv_ldc2 (v := 4294967295) hx hb hown (hts _ (twU _ mw6)) dL_law_1413 ?_
  refine lv_land hx hb dL_law_1416 ?_
  refine lv_lor hx hb dL_law_1417 ?_
  refine k_li hWm hWc (fun q a b => hdis q b a) (va_runV (As := [.int (xs (ix (x3 + 1))), .long ((lshl ((xs (ix (x3 + 2))).toInt64) 32) ||| (((xs (ix (x3 + 3))).toInt64) &&& 4294967295))]) (rest := [.int r223]) ⟨hx, hb, hml, hown, hts⟩ (c_X12_worldsAt l Gm hm (xs (ix (x3 + 1))) ((lshl ((xs (ix (x3 + 2))).toInt64) 32) ||| (((xs (ix (x3 + 3))).toInt64) &&& 4294967295)) _ hq) (cwV 2 hts (gL_V mw1419 mw1420 mw1421 mw5 mw1422) rfl rfl rfl (by decide +kernel) ⟨Nat.le_of_ble_eq_true rfl, Nat.le_of_ble_eq_true rfl⟩) (k_preV (hKM hK) hWm (shM_lt rfl (by decide)) (ceM_12 rfl) (q := (RX12, TX12, 73)) rfl) rfl rfl hl.1 rfl (lv_room (Nat.le_of_ble_eq_true rfl)) dL_law_1418 ⟨Nat.le_refl _, Nat.le_refl _⟩) (fun r225 h224 H locs hq hWm hWc => ?_)
  rw [hq.1] at hWm
  have hq := hq.2
  refine lv_icmp_eq (tgt := 1798) hx hb dL_law_1421 (by decide) (fun c226 => ?_) (fun c226 => ?_)
  · have hq := hq.1 c226
    obtain ⟨x3_227, ex3_227⟩ : ∃ y : Int32, y = x3 + 6 := ⟨_, rfl⟩
    have hq := hq x3_227 ex3_227
    refine lv_iinc (v := x3_227) (lv' := [(3, .int x3_227), (0, .ref b), (1, .ref (Gc.2.2 0)), (2, .ref (Gm.2.2 0))]) hx hb dL_law_1798 hl (k := 3) rfl (by rw [ex3_227]; rfl) (by decide) rfl (fun ls hl => ?_)
    refine lv_goto (tgt := 18) hx hb dL_law_1801 (by decide) ?_
    exact hX _ _ _ _ _ _ hWc hWm (lv_sub hl [1, 2, 3, 0] rfl) hq
  · have hq := hq.2 c226
    refine lv_iconst (v := 0) hx hb dL_law_1424 (by decide) ?_
    exact hq.elim
theorem k_law_1426 {p : Program} {l : Launch} {e : Env} {s : State} {m : MethodId} {below : List Frame} {meth : Method} {c : Code} {b L : Nat} {xs : Nat → Int32} {Gc Gm : wG} (hL : L ≤ 3072) (C0 : lw_At p s m meth c b L xs) (hK : kK Gc s ∧ kK Gm s) (hdis : ∀ q, aS SC Gc q → aS SM Gm q → False) {X : Int32 × hp × hp → Prop} (hX : ∀ (x3 : Int32) (hc hm : hp) (H : Heap) (locs : List Loc) (ls : Array Slot), kW SC Gc hc (lA s) s H locs → kW SM Gm hm (lA s) s H locs → lv_has ls 4 [(0, .ref b), (1, .ref (Gc.2.2 0)), (2, .ref (Gm.2.2 0)), (3, .int x3)] → X (x3, hc, hm) → W p l e room_1 s m #[Value.ref b] below meth c H locs 600000 7302250 (lw_Z below #[Value.ref b] s) (F0 m 18 ls [])) {x3 : Int32} {hc hm : hp} {H : Heap} {locs : List Loc} {ls : Array Slot} (hWc : kW SC Gc hc (lA s) s H locs) (hWm : kW SM Gm hm (lA s) s H locs) (hl : lv_has ls 4 [(0, .ref b), (1, .ref (Gc.2.2 0)), (2, .ref (Gm.2.2 0)), (3, .int x3)]) (hq : w_law_1426 L xs X x3 hc hm) : W p l e room_1 s m #[Value.ref b] below meth c H locs 600000 7302250 (lw_Z below #[Value.ref b] s) (F0 m 1426 ls []) := by
  obtain ⟨hx, hb, hr, hml, hown, hts, hX0, hbl, hlocks, hgv⟩ := id C0
  have hbA : ¬ lA s b := Nat.not_le.mpr hbl
  unfold w_law_1426 at hq
  refine lv_aload_n hx hb dL_law_1426 rfl (lv_at hl 1 rfl) ?_
  refine lv_aload_n hx hb dL_law_1427 rfl (lv_at hl 0 rfl) ?_
  refine lv_iload_n hx hb dL_law_1428 rfl (lv_at hl 3 rfl) ?_
  refine lv_iconst (v := 1) hx hb dL_law_1429 (by decide) ?_
  refine lv_iadd hx hb dL_law_1430 ?_
  refine va_sld hx hb hX0 hbl hbA hWc.2.2 hq.1 dL_law_1431 ?_
  have hq := hq.2
  refine lv_aload_n hx hb dL_law_1432 rfl (lv_at hl 0 rfl) ?_
  refine lv_iload_n hx hb dL_law_1433 rfl (lv_at hl 3 rfl) ?_
  refine lv_iconst (v := 2) hx hb dL_law_1434 (by decide) ?_
  refine lv_iadd hx hb dL_law_1435 ?_
  refine va_sld hx hb hX0 hbl hbA hWc.2.2 hq.1 dL_law_1436 ?_
  have hq := hq.2
  refine k_li hWc hWm hdis (va_runV (As := [.int (xs (ix (x3 + 1))), .int (xs (ix (x3 + 2)))]) (rest := []) ⟨hx, hb, hml, hown, hts⟩ (c_X11_rest l Gc hc (xs (ix (x3 + 1))) (xs (ix (x3 + 2))) _ hq) (cwV 2 hts (gL_V mw1423 mw1424 mw1425 mw2 mw1426) rfl rfl rfl (by decide +kernel) ⟨Nat.le_of_ble_eq_true rfl, Nat.le_of_ble_eq_true rfl⟩) (k_preV (hKC hK) hWc (shC_lt rfl (by decide)) (ceC_11 rfl) (q := (RX11, TX11, 11)) rfl) rfl rfl hl.1 rfl (lv_room (Nat.le_of_ble_eq_true rfl)) dL_law_1437 ⟨Nat.le_refl _, Nat.le_refl _⟩) (fun r229 h228 H locs hq hWc hWm => ?_)
  rw [hq.1] at hWc
  have hq := hq.2
  refine lv_aload_n hx hb dL_law_1440 rfl (lv_at hl 2 rfl) ?_
  refine lv_aload_n hx hb dL_law_1441 rfl (lv_at hl 0 rfl) ?_
  refine lv_iload_n hx hb dL_law_1442 rfl (lv_at hl 3 rfl) ?_
  refine lv_iconst (v := 1) hx hb dL_law_1443 (by decide) ?_
  refine lv_iadd hx hb dL_law_1444 ?_
  refine va_sld hx hb hX0 hbl hbA hWc.2.2 hq.1 dL_law_1445 ?_
  have hq := hq.2
  refine lv_aload_n hx hb dL_law_1446 rfl (lv_at hl 0 rfl) ?_
  refine lv_iload_n hx hb dL_law_1447 rfl (lv_at hl 3 rfl) ?_
  refine lv_iconst (v := 2) hx hb dL_law_1448 (by decide) ?_
  refine lv_iadd hx hb dL_law_1449 ?_
  refine va_sld hx hb hX0 hbl hbA hWc.2.2 hq.1 dL_law_1450 ?_
  have hq := hq.2
  refine k_li hWm hWc (fun q a b => hdis q b a) (va_runV (As := [.int (xs (ix (x3 + 1))), .int (xs (ix (x3 + 2)))]) (rest := [.int r229]) ⟨hx, hb, hml, hown, hts⟩ (c_X12_rest l Gm hm (xs (ix (x3 + 1))) (xs (ix (x3 + 2))) _ hq) (cwV 2 hts (gL_V mw1428 mw1429 mw1430 mw5 mw1431) rfl rfl rfl (by decide +kernel) ⟨Nat.le_of_ble_eq_true rfl, Nat.le_of_ble_eq_true rfl⟩) (k_preV (hKM hK) hWm (shM_lt rfl (by decide)) (ceM_12 rfl) (q := (RX12, TX12, 73)) rfl) rfl rfl hl.1 rfl (lv_room (Nat.le_of_ble_eq_true rfl)) dL_law_1451 ⟨Nat.le_refl _, Nat.le_refl _⟩) (fun r231 h230 H locs hq hWm hWc => ?_)
  rw [hq.1] at hWm
  have hq := hq.2
  refine lv_icmp_eq (tgt := 1798) hx hb dL_law_1454 (by decide) (fun c232 => ?_) (fun c232 => ?_)
  · have hq := hq.1 c232
    obtain ⟨x3_233, ex3_233⟩ : ∃ y : Int32, y = x3 + 6 := ⟨_, rfl⟩
    have hq := hq x3_233 ex3_233
    refine lv_iinc (v := x3_233) (lv' := [(3, .int x3_233), (0, .ref b), (1, .ref (Gc.2.2 0)), (2, .ref (Gm.2.2 0))]) hx hb dL_law_1798 hl (k := 3) rfl (by rw [ex3_233]; rfl) (by decide) rfl (fun ls hl => ?_)
    refine lv_goto (tgt := 18) hx hb dL_law_1801 (by decide) ?_
    exact hX _ _ _ _ _ _ hWc hWm (lv_sub hl [1, 2, 3, 0] rfl) hq
  · have hq := hq.2 c232
    refine lv_iconst (v := 0) hx hb dL_law_1457 (by decide) ?_
    exact hq.elim
theorem k_law_1459 {p : Program} {l : Launch} {e : Env} {s : State} {m : MethodId} {below : List Frame} {meth : Method} {c : Code} {b L : Nat} {xs : Nat → Int32} {Gc Gm : wG} (hL : L ≤ 3072) (C0 : lw_At p s m meth c b L xs) (hK : kK Gc s ∧ kK Gm s) (hdis : ∀ q, aS SC Gc q → aS SM Gm q → False) {X : Int32 × hp × hp → Prop} (hX : ∀ (x3 : Int32) (hc hm : hp) (H : Heap) (locs : List Loc) (ls : Array Slot), kW SC Gc hc (lA s) s H locs → kW SM Gm hm (lA s) s H locs → lv_has ls 4 [(0, .ref b), (1, .ref (Gc.2.2 0)), (2, .ref (Gm.2.2 0)), (3, .int x3)] → X (x3, hc, hm) → W p l e room_1 s m #[Value.ref b] below meth c H locs 600000 7302250 (lw_Z below #[Value.ref b] s) (F0 m 18 ls [])) {x3 : Int32} {hc hm : hp} {H : Heap} {locs : List Loc} {ls : Array Slot} (hWc : kW SC Gc hc (lA s) s H locs) (hWm : kW SM Gm hm (lA s) s H locs) (hl : lv_has ls 4 [(0, .ref b), (1, .ref (Gc.2.2 0)), (2, .ref (Gm.2.2 0)), (3, .int x3)]) (hq : w_law_1459 L xs X x3 hc hm) : W p l e room_1 s m #[Value.ref b] below meth c H locs 600000 7302250 (lw_Z below #[Value.ref b] s) (F0 m 1459 ls []) := by
  obtain ⟨hx, hb, hr, hml, hown, hts, hX0, hbl, hlocks, hgv⟩ := id C0
  have hbA : ¬ lA s b := Nat.not_le.mpr hbl
  unfold w_law_1459 at hq
  refine lv_aload_n hx hb dL_law_1459 rfl (lv_at hl 1 rfl) ?_
  refine lv_aload_n hx hb dL_law_1460 rfl (lv_at hl 0 rfl) ?_
  refine lv_iload_n hx hb dL_law_1461 rfl (lv_at hl 3 rfl) ?_
  refine lv_iconst (v := 1) hx hb dL_law_1462 (by decide) ?_
  refine lv_iadd hx hb dL_law_1463 ?_
  refine va_sld hx hb hX0 hbl hbA hWc.2.2 hq.1 dL_law_1464 ?_
  have hq := hq.2
  refine lv_aload_n hx hb dL_law_1465 rfl (lv_at hl 0 rfl) ?_
  refine lv_iload_n hx hb dL_law_1466 rfl (lv_at hl 3 rfl) ?_
  refine lv_iconst (v := 2) hx hb dL_law_1467 (by decide) ?_
  refine lv_iadd hx hb dL_law_1468 ?_
  refine va_sld hx hb hX0 hbl hbA hWc.2.2 hq.1 dL_law_1469 ?_
  have hq := hq.2
  refine k_li hWc hWm hdis (va_runV (As := [.int (xs (ix (x3 + 1))), .int (xs (ix (x3 + 2)))]) (rest := []) ⟨hx, hb, hml, hown, hts⟩ (c_X11_alike l Gc hc (xs (ix (x3 + 1))) (xs (ix (x3 + 2))) _ hq) (cwV 2 hts (gL_V mw1436 mw1437 mw1438 mw2 mw1439) rfl rfl rfl (by decide +kernel) ⟨Nat.le_of_ble_eq_true rfl, Nat.le_of_ble_eq_true rfl⟩) (k_preV (hKC hK) hWc (shC_lt rfl (by decide)) (ceC_11 rfl) (q := (RX11, TX11, 11)) rfl) rfl rfl hl.1 rfl (lv_room (Nat.le_of_ble_eq_true rfl)) dL_law_1470 ⟨Nat.le_refl _, Nat.le_refl _⟩) (fun r235 h234 H locs hq hWc hWm => ?_)
  rw [hq.1] at hWc
  have hq := hq.2
  refine lv_aload_n hx hb dL_law_1473 rfl (lv_at hl 2 rfl) ?_
  refine lv_aload_n hx hb dL_law_1474 rfl (lv_at hl 0 rfl) ?_
  refine lv_iload_n hx hb dL_law_1475 rfl (lv_at hl 3 rfl) ?_
  refine lv_iconst (v := 1) hx hb dL_law_1476 (by decide) ?_
  refine lv_iadd hx hb dL_law_1477 ?_
  refine va_sld hx hb hX0 hbl hbA hWc.2.2 hq.1 dL_law_1478 ?_
  have hq := hq.2
  refine lv_aload_n hx hb dL_law_1479 rfl (lv_at hl 0 rfl) ?_
  refine lv_iload_n hx hb dL_law_1480 rfl (lv_at hl 3 rfl) ?_
  refine lv_iconst (v := 2) hx hb dL_law_1481 (by decide) ?_
  refine lv_iadd hx hb dL_law_1482 ?_
  refine va_sld hx hb hX0 hbl hbA hWc.2.2 hq.1 dL_law_1483 ?_
  have hq := hq.2
  refine k_li hWm hWc (fun q a b => hdis q b a) (va_runV (As := [.int (xs (ix (x3 + 1))), .int (xs (ix (x3 + 2)))]) (rest := [.int r235]) ⟨hx, hb, hml, hown, hts⟩ (c_X12_alike l Gm hm (xs (ix (x3 + 1))) (xs (ix (x3 + 2))) _ hq) (cwV 2 hts (gL_V mw1441 mw1442 mw1443 mw5 mw1444) rfl rfl rfl (by decide +kernel) ⟨Nat.le_of_ble_eq_true rfl, Nat.le_of_ble_eq_true rfl⟩) (k_preV (hKM hK) hWm (shM_lt rfl (by decide)) (ceM_12 rfl) (q := (RX12, TX12, 73)) rfl) rfl rfl hl.1 rfl (lv_room (Nat.le_of_ble_eq_true rfl)) dL_law_1484 ⟨Nat.le_refl _, Nat.le_refl _⟩) (fun r237 h236 H locs hq hWm hWc => ?_)
  rw [hq.1] at hWm
  have hq := hq.2
  refine lv_icmp_eq (tgt := 1798) hx hb dL_law_1487 (by decide) (fun c238 => ?_) (fun c238 => ?_)
  · have hq := hq.1 c238
    obtain ⟨x3_239, ex3_239⟩ : ∃ y : Int32, y = x3 + 6 := ⟨_, rfl⟩
    have hq := hq x3_239 ex3_239
    refine lv_iinc (v := x3_239) (lv' := [(3, .int x3_239), (0, .ref b), (1, .ref (Gc.2.2 0)), (2, .ref (Gm.2.2 0))]) hx hb dL_law_1798 hl (k := 3) rfl (by rw [ex3_239]; rfl) (by decide) rfl (fun ls hl => ?_)
    refine lv_goto (tgt := 18) hx hb dL_law_1801 (by decide) ?_
    exact hX _ _ _ _ _ _ hWc hWm (lv_sub hl [1, 2, 3, 0] rfl) hq
  · have hq := hq.2 c238
    refine lv_iconst (v := 0) hx hb dL_law_1490 (by decide) ?_
    exact hq.elim
theorem k_law_1492 {p : Program} {l : Launch} {e : Env} {s : State} {m : MethodId} {below : List Frame} {meth : Method} {c : Code} {b L : Nat} {xs : Nat → Int32} {Gc Gm : wG} (hL : L ≤ 3072) (C0 : lw_At p s m meth c b L xs) (hK : kK Gc s ∧ kK Gm s) (hdis : ∀ q, aS SC Gc q → aS SM Gm q → False) {X : Int32 × hp × hp → Prop} (hX : ∀ (x3 : Int32) (hc hm : hp) (H : Heap) (locs : List Loc) (ls : Array Slot), kW SC Gc hc (lA s) s H locs → kW SM Gm hm (lA s) s H locs → lv_has ls 4 [(0, .ref b), (1, .ref (Gc.2.2 0)), (2, .ref (Gm.2.2 0)), (3, .int x3)] → X (x3, hc, hm) → W p l e room_1 s m #[Value.ref b] below meth c H locs 600000 7302250 (lw_Z below #[Value.ref b] s) (F0 m 18 ls [])) {x3 : Int32} {hc hm : hp} {H : Heap} {locs : List Loc} {ls : Array Slot} (hWc : kW SC Gc hc (lA s) s H locs) (hWm : kW SM Gm hm (lA s) s H locs) (hl : lv_has ls 4 [(0, .ref b), (1, .ref (Gc.2.2 0)), (2, .ref (Gm.2.2 0)), (3, .int x3)]) (hq : w_law_1492 L xs X x3 hc hm) : W p l e room_1 s m #[Value.ref b] below meth c H locs 600000 7302250 (lw_Z below #[Value.ref b] s) (F0 m 1492 ls []) := by
  obtain ⟨hx, hb, hr, hml, hown, hts, hX0, hbl, hlocks, hgv⟩ := id C0
  have hbA : ¬ lA s b := Nat.not_le.mpr hbl
  unfold w_law_1492 at hq
  refine lv_aload_n hx hb dL_law_1492 rfl (lv_at hl 1 rfl) ?_
  refine lv_aload_n hx hb dL_law_1493 rfl (lv_at hl 0 rfl) ?_
  refine lv_iload_n hx hb dL_law_1494 rfl (lv_at hl 3 rfl) ?_
  refine lv_iconst (v := 1) hx hb dL_law_1495 (by decide) ?_
  refine lv_iadd hx hb dL_law_1496 ?_
  refine va_sld hx hb hX0 hbl hbA hWc.2.2 hq.1 dL_law_1497 ?_
  have hq := hq.2
  refine lv_aload_n hx hb dL_law_1498 rfl (lv_at hl 0 rfl) ?_
  refine lv_iload_n hx hb dL_law_1499 rfl (lv_at hl 3 rfl) ?_
  refine lv_iconst (v := 2) hx hb dL_law_1500 (by decide) ?_
  refine lv_iadd hx hb dL_law_1501 ?_
  refine va_sld hx hb hX0 hbl hbA hWc.2.2 hq.1 dL_law_1502 ?_
  have hq := hq.2
  refine lv_aload_n hx hb dL_law_1503 rfl (lv_at hl 0 rfl) ?_
  refine lv_iload_n hx hb dL_law_1504 rfl (lv_at hl 3 rfl) ?_
  refine lv_iconst (v := 3) hx hb dL_law_1505 (by decide) ?_
  refine lv_iadd hx hb dL_law_1506 ?_
  refine va_sld hx hb hX0 hbl hbA hWc.2.2 hq.1 dL_law_1507 ?_
  have hq := hq.2
  refine k_li hWc hWm hdis (va_runV (As := [.int (xs (ix (x3 + 1))), .int (xs (ix (x3 + 2))), .int (xs (ix (x3 + 3)))]) (rest := []) ⟨hx, hb, hml, hown, hts⟩ (c_X11_plus l Gc hc (xs (ix (x3 + 1))) (xs (ix (x3 + 2))) (xs (ix (x3 + 3))) _ hq) (cwV 3 hts (gL_V mw1445 mw1446 mw1447 mw2 mw1448) rfl rfl rfl (by decide +kernel) ⟨Nat.le_of_ble_eq_true rfl, Nat.le_of_ble_eq_true rfl⟩) (k_preV (hKC hK) hWc (shC_lt rfl (by decide)) (ceC_11 rfl) (q := (RX11, TX11, 11)) rfl) rfl rfl hl.1 rfl (lv_room (Nat.le_of_ble_eq_true rfl)) dL_law_1508 ⟨Nat.le_refl _, Nat.le_refl _⟩) (fun r241 h240 H locs hq hWc hWm => ?_)
  rw [hq.1] at hWc
  have hq := hq.2
  refine lv_aload_n hx hb dL_law_1511 rfl (lv_at hl 2 rfl) ?_
  refine lv_aload_n hx hb dL_law_1512 rfl (lv_at hl 0 rfl) ?_
  refine lv_iload_n hx hb dL_law_1513 rfl (lv_at hl 3 rfl) ?_
  refine lv_iconst (v := 1) hx hb dL_law_1514 (by decide) ?_
  refine lv_iadd hx hb dL_law_1515 ?_
  refine va_sld hx hb hX0 hbl hbA hWc.2.2 hq.1 dL_law_1516 ?_
  have hq := hq.2
  refine lv_aload_n hx hb dL_law_1517 rfl (lv_at hl 0 rfl) ?_
  refine lv_iload_n hx hb dL_law_1518 rfl (lv_at hl 3 rfl) ?_
  refine lv_iconst (v := 2) hx hb dL_law_1519 (by decide) ?_
  refine lv_iadd hx hb dL_law_1520 ?_
  refine va_sld hx hb hX0 hbl hbA hWc.2.2 hq.1 dL_law_1521 ?_
  have hq := hq.2
  refine lv_aload_n hx hb dL_law_1522 rfl (lv_at hl 0 rfl) ?_
  refine lv_iload_n hx hb dL_law_1523 rfl (lv_at hl 3 rfl) ?_
  refine lv_iconst (v := 3) hx hb dL_law_1524 (by decide) ?_
  refine lv_iadd hx hb dL_law_1525 ?_
  refine va_sld hx hb hX0 hbl hbA hWc.2.2 hq.1 dL_law_1526 ?_
  have hq := hq.2
  refine k_li hWm hWc (fun q a b => hdis q b a) (va_runV (As := [.int (xs (ix (x3 + 1))), .int (xs (ix (x3 + 2))), .int (xs (ix (x3 + 3)))]) (rest := [.int r241]) ⟨hx, hb, hml, hown, hts⟩ (c_X12_plus l Gm hm (xs (ix (x3 + 1))) (xs (ix (x3 + 2))) (xs (ix (x3 + 3))) _ hq) (cwV 3 hts (gL_V mw1454 mw1455 mw1456 mw5 mw1457) rfl rfl rfl (by decide +kernel) ⟨Nat.le_of_ble_eq_true rfl, Nat.le_of_ble_eq_true rfl⟩) (k_preV (hKM hK) hWm (shM_lt rfl (by decide)) (ceM_12 rfl) (q := (RX12, TX12, 73)) rfl) rfl rfl hl.1 rfl (lv_room (Nat.le_of_ble_eq_true rfl)) dL_law_1527 ⟨Nat.le_refl _, Nat.le_refl _⟩) (fun r243 h242 H locs hq hWm hWc => ?_)
  rw [hq.1] at hWm
  have hq := hq.2
  refine lv_icmp_eq (tgt := 1798) hx hb dL_law_1530 (by decide) (fun c244 => ?_) (fun c244 => ?_)
  · have hq := hq.1 c244
    obtain ⟨x3_245, ex3_245⟩ : ∃ y : Int32, y = x3 + 6 := ⟨_, rfl⟩
    have hq := hq x3_245 ex3_245
    refine lv_iinc (v := x3_245) (lv' := [(3, .int x3_245), (0, .ref b), (1, .ref (Gc.2.2 0)), (2, .ref (Gm.2.2 0))]) hx hb dL_law_1798 hl (k := 3) rfl (by rw [ex3_245]; rfl) (by decide) rfl (fun ls hl => ?_)
    refine lv_goto (tgt := 18) hx hb dL_law_1801 (by decide) ?_
    exact hX _ _ _ _ _ _ hWc hWm (lv_sub hl [1, 2, 3, 0] rfl) hq
  · have hq := hq.2 c244
    refine lv_iconst (v := 0) hx hb dL_law_1533 (by decide) ?_
    exact hq.elim
theorem k_law_1535 {p : Program} {l : Launch} {e : Env} {s : State} {m : MethodId} {below : List Frame} {meth : Method} {c : Code} {b L : Nat} {xs : Nat → Int32} {Gc Gm : wG} (hL : L ≤ 3072) (C0 : lw_At p s m meth c b L xs) (hK : kK Gc s ∧ kK Gm s) (hdis : ∀ q, aS SC Gc q → aS SM Gm q → False) {X : Int32 × hp × hp → Prop} (hX : ∀ (x3 : Int32) (hc hm : hp) (H : Heap) (locs : List Loc) (ls : Array Slot), kW SC Gc hc (lA s) s H locs → kW SM Gm hm (lA s) s H locs → lv_has ls 4 [(0, .ref b), (1, .ref (Gc.2.2 0)), (2, .ref (Gm.2.2 0)), (3, .int x3)] → X (x3, hc, hm) → W p l e room_1 s m #[Value.ref b] below meth c H locs 600000 7302250 (lw_Z below #[Value.ref b] s) (F0 m 18 ls [])) {x3 : Int32} {hc hm : hp} {H : Heap} {locs : List Loc} {ls : Array Slot} (hWc : kW SC Gc hc (lA s) s H locs) (hWm : kW SM Gm hm (lA s) s H locs) (hl : lv_has ls 4 [(0, .ref b), (1, .ref (Gc.2.2 0)), (2, .ref (Gm.2.2 0)), (3, .int x3)]) (hq : w_law_1535 L xs X x3 hc hm) : W p l e room_1 s m #[Value.ref b] below meth c H locs 600000 7302250 (lw_Z below #[Value.ref b] s) (F0 m 1535 ls []) := by
  obtain ⟨hx, hb, hr, hml, hown, hts, hX0, hbl, hlocks, hgv⟩ := id C0
  have hbA : ¬ lA s b := Nat.not_le.mpr hbl
  unfold w_law_1535 at hq
  refine lv_aload_n hx hb dL_law_1535 rfl (lv_at hl 1 rfl) ?_
  refine lv_aload_n hx hb dL_law_1536 rfl (lv_at hl 0 rfl) ?_
  refine lv_iload_n hx hb dL_law_1537 rfl (lv_at hl 3 rfl) ?_
  refine lv_iconst (v := 1) hx hb dL_law_1538 (by decide) ?_
  refine lv_iadd hx hb dL_law_1539 ?_
  refine va_sld hx hb hX0 hbl hbA hWc.2.2 hq.1 dL_law_1540 ?_
  have hq := hq.2
  refine lv_aload_n hx hb dL_law_1541 rfl (lv_at hl 0 rfl) ?_
  refine lv_iload_n hx hb dL_law_1542 rfl (lv_at hl 3 rfl) ?_
  refine lv_iconst (v := 2) hx hb dL_law_1543 (by decide) ?_
  refine lv_iadd hx hb dL_law_1544 ?_
  refine va_sld hx hb hX0 hbl hbA hWc.2.2 hq.1 dL_law_1545 ?_
  have hq := hq.2
  refine lv_aload_n hx hb dL_law_1546 rfl (lv_at hl 0 rfl) ?_
  refine lv_iload_n hx hb dL_law_1547 rfl (lv_at hl 3 rfl) ?_
  refine lv_iconst (v := 3) hx hb dL_law_1548 (by decide) ?_
  refine lv_iadd hx hb dL_law_1549 ?_
  refine va_sld hx hb hX0 hbl hbA hWc.2.2 hq.1 dL_law_1550 ?_
  have hq := hq.2
  refine k_li hWc hWm hdis (va_runV (As := [.int (xs (ix (x3 + 1))), .int (xs (ix (x3 + 2))), .int (xs (ix (x3 + 3)))]) (rest := []) ⟨hx, hb, hml, hown, hts⟩ (c_X11_times l Gc hc (xs (ix (x3 + 1))) (xs (ix (x3 + 2))) (xs (ix (x3 + 3))) _ hq) (cwV 3 hts (gL_V mw1467 mw1468 mw1469 mw2 mw1470) rfl rfl rfl (by decide +kernel) ⟨Nat.le_of_ble_eq_true rfl, Nat.le_of_ble_eq_true rfl⟩) (k_preV (hKC hK) hWc (shC_lt rfl (by decide)) (ceC_11 rfl) (q := (RX11, TX11, 11)) rfl) rfl rfl hl.1 rfl (lv_room (Nat.le_of_ble_eq_true rfl)) dL_law_1551 ⟨Nat.le_refl _, Nat.le_refl _⟩) (fun r247 h246 H locs hq hWc hWm => ?_)
  rw [hq.1] at hWc
  have hq := hq.2
  refine lv_aload_n hx hb dL_law_1554 rfl (lv_at hl 2 rfl) ?_
  refine lv_aload_n hx hb dL_law_1555 rfl (lv_at hl 0 rfl) ?_
  refine lv_iload_n hx hb dL_law_1556 rfl (lv_at hl 3 rfl) ?_
  refine lv_iconst (v := 1) hx hb dL_law_1557 (by decide) ?_
  refine lv_iadd hx hb dL_law_1558 ?_
  refine va_sld hx hb hX0 hbl hbA hWc.2.2 hq.1 dL_law_1559 ?_
  have hq := hq.2
  refine lv_aload_n hx hb dL_law_1560 rfl (lv_at hl 0 rfl) ?_
  refine lv_iload_n hx hb dL_law_1561 rfl (lv_at hl 3 rfl) ?_
  refine lv_iconst (v := 2) hx hb dL_law_1562 (by decide) ?_
  refine lv_iadd hx hb dL_law_1563 ?_
  refine va_sld hx hb hX0 hbl hbA hWc.2.2 hq.1 dL_law_1564 ?_
  have hq := hq.2
  refine lv_aload_n hx hb dL_law_1565 rfl (lv_at hl 0 rfl) ?_
  refine lv_iload_n hx hb dL_law_1566 rfl (lv_at hl 3 rfl) ?_
  refine lv_iconst (v := 3) hx hb dL_law_1567 (by decide) ?_
  refine lv_iadd hx hb dL_law_1568 ?_
  refine va_sld hx hb hX0 hbl hbA hWc.2.2 hq.1 dL_law_1569 ?_
  have hq := hq.2
  refine k_li hWm hWc (fun q a b => hdis q b a) (va_runV (As := [.int (xs (ix (x3 + 1))), .int (xs (ix (x3 + 2))), .int (xs (ix (x3 + 3)))]) (rest := [.int r247]) ⟨hx, hb, hml, hown, hts⟩ (c_X12_times l Gm hm (xs (ix (x3 + 1))) (xs (ix (x3 + 2))) (xs (ix (x3 + 3))) _ hq) (cwV 3 hts (gL_V mw1471 mw1472 mw1473 mw5 mw1474) rfl rfl rfl (by decide +kernel) ⟨Nat.le_of_ble_eq_true rfl, Nat.le_of_ble_eq_true rfl⟩) (k_preV (hKM hK) hWm (shM_lt rfl (by decide)) (ceM_12 rfl) (q := (RX12, TX12, 73)) rfl) rfl rfl hl.1 rfl (lv_room (Nat.le_of_ble_eq_true rfl)) dL_law_1570 ⟨Nat.le_refl _, Nat.le_refl _⟩) (fun r249 h248 H locs hq hWm hWc => ?_)
  rw [hq.1] at hWm
  have hq := hq.2
  refine lv_icmp_eq (tgt := 1798) hx hb dL_law_1573 (by decide) (fun c250 => ?_) (fun c250 => ?_)
  · have hq := hq.1 c250
    obtain ⟨x3_251, ex3_251⟩ : ∃ y : Int32, y = x3 + 6 := ⟨_, rfl⟩
    have hq := hq x3_251 ex3_251
    refine lv_iinc (v := x3_251) (lv' := [(3, .int x3_251), (0, .ref b), (1, .ref (Gc.2.2 0)), (2, .ref (Gm.2.2 0))]) hx hb dL_law_1798 hl (k := 3) rfl (by rw [ex3_251]; rfl) (by decide) rfl (fun ls hl => ?_)
    refine lv_goto (tgt := 18) hx hb dL_law_1801 (by decide) ?_
    exact hX _ _ _ _ _ _ hWc hWm (lv_sub hl [1, 2, 3, 0] rfl) hq
  · have hq := hq.2 c250
    refine lv_iconst (v := 0) hx hb dL_law_1576 (by decide) ?_
    exact hq.elim
theorem k_law_1578 {p : Program} {l : Launch} {e : Env} {s : State} {m : MethodId} {below : List Frame} {meth : Method} {c : Code} {b L : Nat} {xs : Nat → Int32} {Gc Gm : wG} (hL : L ≤ 3072) (C0 : lw_At p s m meth c b L xs) (hK : kK Gc s ∧ kK Gm s) (hdis : ∀ q, aS SC Gc q → aS SM Gm q → False) {X : Int32 × hp × hp → Prop} (hX : ∀ (x3 : Int32) (hc hm : hp) (H : Heap) (locs : List Loc) (ls : Array Slot), kW SC Gc hc (lA s) s H locs → kW SM Gm hm (lA s) s H locs → lv_has ls 4 [(0, .ref b), (1, .ref (Gc.2.2 0)), (2, .ref (Gm.2.2 0)), (3, .int x3)] → X (x3, hc, hm) → W p l e room_1 s m #[Value.ref b] below meth c H locs 600000 7302250 (lw_Z below #[Value.ref b] s) (F0 m 18 ls [])) {x3 : Int32} {hc hm : hp} {H : Heap} {locs : List Loc} {ls : Array Slot} (hWc : kW SC Gc hc (lA s) s H locs) (hWm : kW SM Gm hm (lA s) s H locs) (hl : lv_has ls 4 [(0, .ref b), (1, .ref (Gc.2.2 0)), (2, .ref (Gm.2.2 0)), (3, .int x3)]) (hq : w_law_1578 L xs X x3 hc hm) : W p l e room_1 s m #[Value.ref b] below meth c H locs 600000 7302250 (lw_Z below #[Value.ref b] s) (F0 m 1578 ls []) := by
  obtain ⟨hx, hb, hr, hml, hown, hts, hX0, hbl, hlocks, hgv⟩ := id C0
  have hbA : ¬ lA s b := Nat.not_le.mpr hbl
  unfold w_law_1578 at hq
  refine lv_aload_n hx hb dL_law_1578 rfl (lv_at hl 1 rfl) ?_
  refine k_li hWc hWm hdis (va_runV (As := []) (rest := []) ⟨hx, hb, hml, hown, hts⟩ (c_X11_margin l Gc hc _ hq) (cwV 0 hts (gL_V mw1475 mw1476 mw1477 mw2 mw1478) rfl rfl rfl (by decide +kernel) ⟨Nat.le_of_ble_eq_true rfl, Nat.le_of_ble_eq_true rfl⟩) (k_preV (hKC hK) hWc (shC_lt rfl (by decide)) (ceC_11 rfl) (q := (RX11, TX11, 11)) rfl) rfl rfl hl.1 rfl (lv_room (Nat.le_of_ble_eq_true rfl)) dL_law_1579 ⟨Nat.le_refl _, Nat.le_refl _⟩) (fun r253 h252 H locs hq hWc hWm => ?_)
  refine lv_aload_n hx hb dL_law_1582 rfl (lv_at hl 2 rfl) ?_
  refine k_li hWm hWc (fun q a b => hdis q b a) (va_runV (As := []) (rest := [.int r253]) ⟨hx, hb, hml, hown, hts⟩ (c_X12_margin l Gm hm _ hq) (cwV 0 hts (gL_V mw1479 mw1480 mw1481 mw5 mw1482) rfl rfl rfl (by decide +kernel) ⟨Nat.le_of_ble_eq_true rfl, Nat.le_of_ble_eq_true rfl⟩) (k_preV (hKM hK) hWm (shM_lt rfl (by decide)) (ceM_12 rfl) (q := (RX12, TX12, 73)) rfl) rfl rfl hl.1 rfl (lv_room (Nat.le_of_ble_eq_true rfl)) dL_law_1583 ⟨Nat.le_refl _, Nat.le_refl _⟩) (fun r255 h254 H locs hq hWm hWc => ?_)
  rw [hq.1] at hWm
  have hq := hq.2
  refine lv_icmp_eq (tgt := 1798) hx hb dL_law_1586 (by decide) (fun c256 => ?_) (fun c256 => ?_)
  · have hq := hq.1 c256
    obtain ⟨x3_257, ex3_257⟩ : ∃ y : Int32, y = x3 + 6 := ⟨_, rfl⟩
    have hq := hq x3_257 ex3_257
    refine lv_iinc (v := x3_257) (lv' := [(3, .int x3_257), (0, .ref b), (1, .ref (Gc.2.2 0)), (2, .ref (Gm.2.2 0))]) hx hb dL_law_1798 hl (k := 3) rfl (by rw [ex3_257]; rfl) (by decide) rfl (fun ls hl => ?_)
    refine lv_goto (tgt := 18) hx hb dL_law_1801 (by decide) ?_
    exact hX _ _ _ _ _ _ hWc hWm (lv_sub hl [1, 2, 3, 0] rfl) hq
  · have hq := hq.2 c256
    refine lv_iconst (v := 0) hx hb dL_law_1589 (by decide) ?_
    exact hq.elim
theorem k_law_1591 {p : Program} {l : Launch} {e : Env} {s : State} {m : MethodId} {below : List Frame} {meth : Method} {c : Code} {b L : Nat} {xs : Nat → Int32} {Gc Gm : wG} (hL : L ≤ 3072) (C0 : lw_At p s m meth c b L xs) (hK : kK Gc s ∧ kK Gm s) (hdis : ∀ q, aS SC Gc q → aS SM Gm q → False) {X : Int32 × hp × hp → Prop} (hX : ∀ (x3 : Int32) (hc hm : hp) (H : Heap) (locs : List Loc) (ls : Array Slot), kW SC Gc hc (lA s) s H locs → kW SM Gm hm (lA s) s H locs → lv_has ls 4 [(0, .ref b), (1, .ref (Gc.2.2 0)), (2, .ref (Gm.2.2 0)), (3, .int x3)] → X (x3, hc, hm) → W p l e room_1 s m #[Value.ref b] below meth c H locs 600000 7302250 (lw_Z below #[Value.ref b] s) (F0 m 18 ls [])) {x3 : Int32} {hc hm : hp} {H : Heap} {locs : List Loc} {ls : Array Slot} (hWc : kW SC Gc hc (lA s) s H locs) (hWm : kW SM Gm hm (lA s) s H locs) (hl : lv_has ls 4 [(0, .ref b), (1, .ref (Gc.2.2 0)), (2, .ref (Gm.2.2 0)), (3, .int x3)]) (hq : w_law_1591 L xs X x3 hc hm) : W p l e room_1 s m #[Value.ref b] below meth c H locs 600000 7302250 (lw_Z below #[Value.ref b] s) (F0 m 1591 ls []) := by
  obtain ⟨hx, hb, hr, hml, hown, hts, hX0, hbl, hlocks, hgv⟩ := id C0
  have hbA : ¬ lA s b := Nat.not_le.mpr hbl
  unfold w_law_1591 at hq
  refine lv_aload_n hx hb dL_law_1591 rfl (lv_at hl 1 rfl) ?_
  refine lv_aload_n hx hb dL_law_1592 rfl (lv_at hl 0 rfl) ?_
  refine lv_iload_n hx hb dL_law_1593 rfl (lv_at hl 3 rfl) ?_
  refine lv_iconst (v := 1) hx hb dL_law_1594 (by decide) ?_
  refine lv_iadd hx hb dL_law_1595 ?_
  refine va_sld hx hb hX0 hbl hbA hWc.2.2 hq.1 dL_law_1596 ?_
  have hq := hq.2
  refine lv_aload_n hx hb dL_law_1597 rfl (lv_at hl 0 rfl) ?_
  refine lv_iload_n hx hb dL_law_1598 rfl (lv_at hl 3 rfl) ?_
  refine lv_iconst (v := 2) hx hb dL_law_1599 (by decide) ?_
  refine lv_iadd hx hb dL_law_1600 ?_
  refine va_sld hx hb hX0 hbl hbA hWc.2.2 hq.1 dL_law_1601 ?_
  have hq := hq.2
  refine k_ll hWc hWm hdis (va_runV (As := [.int (xs (ix (x3 + 1))), .int (xs (ix (x3 + 2)))]) (rest := []) ⟨hx, hb, hml, hown, hts⟩ (c_X11_pair l Gc hc (xs (ix (x3 + 1))) (xs (ix (x3 + 2))) _ hq) (cwV 2 hts (gL_V mw1483 mw1484 mw1485 mw2 mw1486) rfl rfl rfl (by decide +kernel) ⟨Nat.le_of_ble_eq_true rfl, Nat.le_of_ble_eq_true rfl⟩) (k_preV (hKC hK) hWc (shC_lt rfl (by decide)) (ceC_11 rfl) (q := (RX11, TX11, 11)) rfl) rfl rfl hl.1 rfl (lv_room (Nat.le_of_ble_eq_true rfl)) dL_law_1602 ⟨Nat.le_refl _, Nat.le_refl _⟩) (fun r259 h258 H locs hq hWc hWm => ?_)
  rw [hq.1] at hWc
  have hq := hq.2
  refine lv_aload_n hx hb dL_law_1605 rfl (lv_at hl 2 rfl) ?_
  refine lv_aload_n hx hb dL_law_1606 rfl (lv_at hl 0 rfl) ?_
  refine lv_iload_n hx hb dL_law_1607 rfl (lv_at hl 3 rfl) ?_
  refine lv_iconst (v := 1) hx hb dL_law_1608 (by decide) ?_
  refine lv_iadd hx hb dL_law_1609 ?_
  refine va_sld hx hb hX0 hbl hbA hWc.2.2 hq.1 dL_law_1610 ?_
  have hq := hq.2
  refine lv_aload_n hx hb dL_law_1611 rfl (lv_at hl 0 rfl) ?_
  refine lv_iload_n hx hb dL_law_1612 rfl (lv_at hl 3 rfl) ?_
  refine lv_iconst (v := 2) hx hb dL_law_1613 (by decide) ?_
  refine lv_iadd hx hb dL_law_1614 ?_
  refine va_sld hx hb hX0 hbl hbA hWc.2.2 hq.1 dL_law_1615 ?_
  have hq := hq.2
  refine k_ll hWm hWc (fun q a b => hdis q b a) (va_runV (As := [.int (xs (ix (x3 + 1))), .int (xs (ix (x3 + 2)))]) (rest := [.long r259]) ⟨hx, hb, hml, hown, hts⟩ (c_X12_pair l Gm hm (xs (ix (x3 + 1))) (xs (ix (x3 + 2))) _ hq) (cwV 2 hts (gL_V mw1494 mw1495 mw1496 mw5 mw1497) rfl rfl rfl (by decide +kernel) ⟨Nat.le_of_ble_eq_true rfl, Nat.le_of_ble_eq_true rfl⟩) (k_preV (hKM hK) hWm (shM_lt rfl (by decide)) (ceM_12 rfl) (q := (RX12, TX12, 73)) rfl) rfl rfl hl.1 rfl (lv_room (Nat.le_of_ble_eq_true rfl)) dL_law_1616 ⟨Nat.le_refl _, Nat.le_refl _⟩) (fun r261 h260 H locs hq hWm hWc => ?_)
  rw [hq.1] at hWm
  have hq := hq.2
  refine W.lcmp hx hb dL_law_1619 ?_
  refine lv_if_eq (tgt := 1798) hx hb dL_law_1620 (by decide) (fun c262 => ?_) (fun c262 => ?_)
  · have hq := hq.1 ((lg_cmp_eq _ _).mp c262)
    obtain ⟨x3_263, ex3_263⟩ : ∃ y : Int32, y = x3 + 6 := ⟨_, rfl⟩
    have hq := hq x3_263 ex3_263
    refine lv_iinc (v := x3_263) (lv' := [(3, .int x3_263), (0, .ref b), (1, .ref (Gc.2.2 0)), (2, .ref (Gm.2.2 0))]) hx hb dL_law_1798 hl (k := 3) rfl (by rw [ex3_263]; rfl) (by decide) rfl (fun ls hl => ?_)
    refine lv_goto (tgt := 18) hx hb dL_law_1801 (by decide) ?_
    exact hX _ _ _ _ _ _ hWc hWm (lv_sub hl [1, 2, 3, 0] rfl) hq
  · have hq := hq.2 (fun z => c262 ((lg_cmp_eq _ _).mpr z))
    refine lv_iconst (v := 0) hx hb dL_law_1623 (by decide) ?_
    exact hq.elim
theorem k_law_1625 {p : Program} {l : Launch} {e : Env} {s : State} {m : MethodId} {below : List Frame} {meth : Method} {c : Code} {b L : Nat} {xs : Nat → Int32} {Gc Gm : wG} (hL : L ≤ 3072) (C0 : lw_At p s m meth c b L xs) (hK : kK Gc s ∧ kK Gm s) (hdis : ∀ q, aS SC Gc q → aS SM Gm q → False) {X : Int32 × hp × hp → Prop} (hX : ∀ (x3 : Int32) (hc hm : hp) (H : Heap) (locs : List Loc) (ls : Array Slot), kW SC Gc hc (lA s) s H locs → kW SM Gm hm (lA s) s H locs → lv_has ls 4 [(0, .ref b), (1, .ref (Gc.2.2 0)), (2, .ref (Gm.2.2 0)), (3, .int x3)] → X (x3, hc, hm) → W p l e room_1 s m #[Value.ref b] below meth c H locs 600000 7302250 (lw_Z below #[Value.ref b] s) (F0 m 18 ls [])) {x3 : Int32} {hc hm : hp} {H : Heap} {locs : List Loc} {ls : Array Slot} (hWc : kW SC Gc hc (lA s) s H locs) (hWm : kW SM Gm hm (lA s) s H locs) (hl : lv_has ls 4 [(0, .ref b), (1, .ref (Gc.2.2 0)), (2, .ref (Gm.2.2 0)), (3, .int x3)]) (hq : w_law_1625 L xs X x3 hc hm) : W p l e room_1 s m #[Value.ref b] below meth c H locs 600000 7302250 (lw_Z below #[Value.ref b] s) (F0 m 1625 ls []) := by
  obtain ⟨hx, hb, hr, hml, hown, hts, hX0, hbl, hlocks, hgv⟩ := id C0
  have hbA : ¬ lA s b := Nat.not_le.mpr hbl
  unfold w_law_1625 at hq
  refine lv_aload_n hx hb dL_law_1625 rfl (lv_at hl 1 rfl) ?_
  refine lv_aload_n hx hb dL_law_1626 rfl (lv_at hl 0 rfl) ?_
  refine lv_iload_n hx hb dL_law_1627 rfl (lv_at hl 3 rfl) ?_
  refine lv_iconst (v := 1) hx hb dL_law_1628 (by decide) ?_
  refine lv_iadd hx hb dL_law_1629 ?_
  refine va_sld hx hb hX0 hbl hbA hWc.2.2 hq.1 dL_law_1630 ?_
  have hq := hq.2
  refine lv_i2l (v := (xs (ix (x3 + 1))).toInt64) hx hb dL_law_1631 rfl ?_
  refine lv_bipush (v := 32) hx hb dL_law_1632 (by decide) ?_
  refine k_lshl hx hb dL_law_1634 ?_
  refine lv_aload_n hx hb dL_law_1635 rfl (lv_at hl 0 rfl) ?_
  refine lv_iload_n hx hb dL_law_1636 rfl (lv_at hl 3 rfl) ?_
  refine lv_iconst (v := 2) hx hb dL_law_1637 (by decide) ?_
  refine lv_iadd hx hb dL_law_1638 ?_
  refine va_sld hx hb hX0 hbl hbA hWc.2.2 hq.1 dL_law_1639 ?_
  have hq := hq.2
  refine lv_i2l (v := (xs (ix (x3 + 2))).toInt64) hx hb dL_law_1640 rfl ?_
  refine lv_ldc2 (v := 4294967295) hx hb hown (hts _ (twU _ mw6)) dL_law_1641 ?_
  refine lv_land hx hb dL_law_1644 ?_
  refine lv_lor hx hb dL_law_1645 ?_
  refine lv_aload_n hx hb dL_law_1646 rfl (lv_at hl 0 rfl) ?_
  refine lv_iload_n hx hb dL_law_1647 rfl (lv_at hl 3 rfl) ?_
  refine lv_iconst (v := 3) hx hb dL_law_1648 (by decide) ?_
  refine lv_iadd hx hb dL_law_1649 ?_
  refine va_sld hx hb hX0 hbl hbA hWc.2.2 hq.1 dL_law_1650 ?_
  have hq := hq.2
  refine lv_if_eq (tgt := 1658) hx hb dL_law_1651 (by decide) (fun c264 => ?_) (fun c264 => ?_)
  · have hq := hq.1 c264
    refine lv_iconst (v := 0) hx hb dL_law_1658 (by decide) ?_
    refine k_ll hWc hWm hdis (va_runV (As := [.long ((lshl ((xs (ix (x3 + 1))).toInt64) 32) ||| (((xs (ix (x3 + 2))).toInt64) &&& 4294967295)), .int 0]) (rest := []) ⟨hx, hb, hml, hown, hts⟩ (c_X11_unpair l Gc hc ((lshl ((xs (ix (x3 + 1))).toInt64) 32) ||| (((xs (ix (x3 + 2))).toInt64) &&& 4294967295)) 0 _ hq) (cwV 2 hts (gL_V mw1502 mw1503 mw1504 mw2 mw1505) rfl rfl rfl (by decide +kernel) ⟨Nat.le_of_ble_eq_true rfl, Nat.le_of_ble_eq_true rfl⟩) (k_preV (hKC hK) hWc (shC_lt rfl (by decide)) (ceC_11 rfl) (q := (RX11, TX11, 11)) rfl) rfl rfl hl.1 rfl (lv_room (Nat.le_of_ble_eq_true rfl)) dL_law_1659 ⟨Nat.le_refl _, Nat.le_refl _⟩) (fun r266 h265 H locs hq hWc hWm => ?_)
    rw [hq.1] at hWc
    have hq := hq.2
    refine lv_aload_n hx hb dL_law_1662 rfl (lv_at hl 2 rfl) ?_
    refine lv_aload_n hx hb dL_law_1663 rfl (lv_at hl 0 rfl) ?_
    refine lv_iload_n hx hb dL_law_1664 rfl (lv_at hl 3 rfl) ?_
    refine lv_iconst (v := 1) hx hb dL_law_1665 (by decide) ?_
    refine lv_iadd hx hb dL_law_1666 ?_
    refine va_sld hx hb hX0 hbl hbA hWc.2.2 hq.1 dL_law_1667 ?_
    have hq := hq.2
    refine lv_i2l (v := (xs (ix (x3 + 1))).toInt64) hx hb dL_law_1668 rfl ?_
    refine lv_bipush (v := 32) hx hb dL_law_1669 (by decide) ?_
    refine k_lshl hx hb dL_law_1671 ?_
    refine lv_aload_n hx hb dL_law_1672 rfl (lv_at hl 0 rfl) ?_
    refine lv_iload_n hx hb dL_law_1673 rfl (lv_at hl 3 rfl) ?_
    refine lv_iconst (v := 2) hx hb dL_law_1674 (by decide) ?_
    refine lv_iadd hx hb dL_law_1675 ?_
    refine va_sld hx hb hX0 hbl hbA hWc.2.2 hq.1 dL_law_1676 ?_
    have hq := hq.2
    refine lv_i2l (v := (xs (ix (x3 + 2))).toInt64) hx hb dL_law_1677 rfl ?_
    refine lv_ldc2 (v := 4294967295) hx hb hown (hts _ (twU _ mw6)) dL_law_1678 ?_
    refine lv_land hx hb dL_law_1681 ?_
    refine lv_lor hx hb dL_law_1682 ?_
    refine lv_aload_n hx hb dL_law_1683 rfl (lv_at hl 0 rfl) ?_
    refine lv_iload_n hx hb dL_law_1684 rfl (lv_at hl 3 rfl) ?_
    refine lv_iconst (v := 3) hx hb dL_law_1685 (by decide) ?_
    refine lv_iadd hx hb dL_law_1686 ?_
    refine va_sld hx hb hX0 hbl hbA hWc.2.2 hq.1 dL_law_1687 ?_
    have hq := hq.2
    refine lv_if_eq (tgt := 1695) hx hb dL_law_1688 (by decide) (fun c267 => ?_) (fun c267 => ?_)
    · have hq := hq.1 c267
      refine lv_iconst (v := 0) hx hb dL_law_1695 (by decide) ?_
      refine k_ll hWm hWc (fun q a b => hdis q b a) (va_runV (As := [.long ((lshl ((xs (ix (x3 + 1))).toInt64) 32) ||| (((xs (ix (x3 + 2))).toInt64) &&& 4294967295)), .int 0]) (rest := [.long r266]) ⟨hx, hb, hml, hown, hts⟩ (c_X12_unpair l Gm hm ((lshl ((xs (ix (x3 + 1))).toInt64) 32) ||| (((xs (ix (x3 + 2))).toInt64) &&& 4294967295)) 0 _ hq) (cwV 2 hts (gL_V mw1507 mw1508 mw1509 mw5 mw1510) rfl rfl rfl (by decide +kernel) ⟨Nat.le_of_ble_eq_true rfl, Nat.le_of_ble_eq_true rfl⟩) (k_preV (hKM hK) hWm (shM_lt rfl (by decide)) (ceM_12 rfl) (q := (RX12, TX12, 73)) rfl) rfl rfl hl.1 rfl (lv_room (Nat.le_of_ble_eq_true rfl)) dL_law_1696 ⟨Nat.le_refl _, Nat.le_refl _⟩) (fun r269 h268 H locs hq hWm hWc => ?_)
      rw [hq.1] at hWm
      have hq := hq.2
      refine W.lcmp hx hb dL_law_1699 ?_
      refine lv_if_eq (tgt := 1798) hx hb dL_law_1700 (by decide) (fun c270 => ?_) (fun c270 => ?_)
      · have hq := hq.1 ((lg_cmp_eq _ _).mp c270)
        obtain ⟨x3_271, ex3_271⟩ : ∃ y : Int32, y = x3 + 6 := ⟨_, rfl⟩
        have hq := hq x3_271 ex3_271
        refine lv_iinc (v := x3_271) (lv' := [(3, .int x3_271), (0, .ref b), (1, .ref (Gc.2.2 0)), (2, .ref (Gm.2.2 0))]) hx hb dL_law_1798 hl (k := 3) rfl (by rw [ex3_271]; rfl) (by decide) rfl (fun ls hl => ?_)
        refine lv_goto (tgt := 18) hx hb dL_law_1801 (by decide) ?_
        exact hX _ _ _ _ _ _ hWc hWm (lv_sub hl [1, 2, 3, 0] rfl) hq
      · have hq := hq.2 (fun z => c270 ((lg_cmp_eq _ _).mpr z))
        refine lv_iconst (v := 0) hx hb dL_law_1703 (by decide) ?_
        exact hq.elim
    · have hq := hq.2 c267
      refine lv_iconst (v := 1) hx hb dL_law_1691 (by decide) ?_
      refine lv_goto (tgt := 1696) hx hb dL_law_1692 (by decide) ?_
      refine k_ll hWm hWc (fun q a b => hdis q b a) (va_runV (As := [.long ((lshl ((xs (ix (x3 + 1))).toInt64) 32) ||| (((xs (ix (x3 + 2))).toInt64) &&& 4294967295)), .int 1]) (rest := [.long r266]) ⟨hx, hb, hml, hown, hts⟩ (c_X12_unpair l Gm hm ((lshl ((xs (ix (x3 + 1))).toInt64) 32) ||| (((xs (ix (x3 + 2))).toInt64) &&& 4294967295)) 1 _ hq) (cwV 2 hts (gL_V mw1507 mw1508 mw1509 mw5 mw1510) rfl rfl rfl (by decide +kernel) ⟨Nat.le_of_ble_eq_true rfl, Nat.le_of_ble_eq_true rfl⟩) (k_preV (hKM hK) hWm (shM_lt rfl (by decide)) (ceM_12 rfl) (q := (RX12, TX12, 73)) rfl) rfl rfl hl.1 rfl (lv_room (Nat.le_of_ble_eq_true rfl)) dL_law_1696 ⟨Nat.le_refl _, Nat.le_refl _⟩) (fun r273 h272 H locs hq hWm hWc => ?_)
      rw [hq.1] at hWm
      have hq := hq.2
      refine W.lcmp hx hb dL_law_1699 ?_
      refine lv_if_eq (tgt := 1798) hx hb dL_law_1700 (by decide) (fun c274 => ?_) (fun c274 => ?_)
      · have hq := hq.1 ((lg_cmp_eq _ _).mp c274)
        obtain ⟨x3_275, ex3_275⟩ : ∃ y : Int32, y = x3 + 6 := ⟨_, rfl⟩
        have hq := hq x3_275 ex3_275
        refine lv_iinc (v := x3_275) (lv' := [(3, .int x3_275), (0, .ref b), (1, .ref (Gc.2.2 0)), (2, .ref (Gm.2.2 0))]) hx hb dL_law_1798 hl (k := 3) rfl (by rw [ex3_275]; rfl) (by decide) rfl (fun ls hl => ?_)
        refine lv_goto (tgt := 18) hx hb dL_law_1801 (by decide) ?_
        exact hX _ _ _ _ _ _ hWc hWm (lv_sub hl [1, 2, 3, 0] rfl) hq
      · have hq := hq.2 (fun z => c274 ((lg_cmp_eq _ _).mpr z))
        refine lv_iconst (v := 0) hx hb dL_law_1703 (by decide) ?_
        exact hq.elim
  · have hq := hq.2 c264
    refine lv_iconst (v := 1) hx hb dL_law_1654 (by decide) ?_
    refine lv_goto (tgt := 1659) hx hb dL_law_1655 (by decide) ?_
    refine k_ll hWc hWm hdis (va_runV (As := [.long ((lshl ((xs (ix (x3 + 1))).toInt64) 32) ||| (((xs (ix (x3 + 2))).toInt64) &&& 4294967295)), .int 1]) (rest := []) ⟨hx, hb, hml, hown, hts⟩ (c_X11_unpair l Gc hc ((lshl ((xs (ix (x3 + 1))).toInt64) 32) ||| (((xs (ix (x3 + 2))).toInt64) &&& 4294967295)) 1 _ hq) (cwV 2 hts (gL_V mw1502 mw1503 mw1504 mw2 mw1505) rfl rfl rfl (by decide +kernel) ⟨Nat.le_of_ble_eq_true rfl, Nat.le_of_ble_eq_true rfl⟩) (k_preV (hKC hK) hWc (shC_lt rfl (by decide)) (ceC_11 rfl) (q := (RX11, TX11, 11)) rfl) rfl rfl hl.1 rfl (lv_room (Nat.le_of_ble_eq_true rfl)) dL_law_1659 ⟨Nat.le_refl _, Nat.le_refl _⟩) (fun r277 h276 H locs hq hWc hWm => ?_)
    rw [hq.1] at hWc
    have hq := hq.2
    refine lv_aload_n hx hb dL_law_1662 rfl (lv_at hl 2 rfl) ?_
    refine lv_aload_n hx hb dL_law_1663 rfl (lv_at hl 0 rfl) ?_
    refine lv_iload_n hx hb dL_law_1664 rfl (lv_at hl 3 rfl) ?_
    refine lv_iconst (v := 1) hx hb dL_law_1665 (by decide) ?_
    refine lv_iadd hx hb dL_law_1666 ?_
    refine va_sld hx hb hX0 hbl hbA hWc.2.2 hq.1 dL_law_1667 ?_
    have hq := hq.2
    refine lv_i2l (v := (xs (ix (x3 + 1))).toInt64) hx hb dL_law_1668 rfl ?_
    refine lv_bipush (v := 32) hx hb dL_law_1669 (by decide) ?_
    refine k_lshl hx hb dL_law_1671 ?_
    refine lv_aload_n hx hb dL_law_1672 rfl (lv_at hl 0 rfl) ?_
    refine lv_iload_n hx hb dL_law_1673 rfl (lv_at hl 3 rfl) ?_
    refine lv_iconst (v := 2) hx hb dL_law_1674 (by decide) ?_
    refine lv_iadd hx hb dL_law_1675 ?_
    refine va_sld hx hb hX0 hbl hbA hWc.2.2 hq.1 dL_law_1676 ?_
    have hq := hq.2
    refine lv_i2l (v := (xs (ix (x3 + 2))).toInt64) hx hb dL_law_1677 rfl ?_
    refine lv_ldc2 (v := 4294967295) hx hb hown (hts _ (twU _ mw6)) dL_law_1678 ?_
    refine lv_land hx hb dL_law_1681 ?_
    refine lv_lor hx hb dL_law_1682 ?_
    refine lv_aload_n hx hb dL_law_1683 rfl (lv_at hl 0 rfl) ?_
    refine lv_iload_n hx hb dL_law_1684 rfl (lv_at hl 3 rfl) ?_
    refine lv_iconst (v := 3) hx hb dL_law_1685 (by decide) ?_
    refine lv_iadd hx hb dL_law_1686 ?_
    refine va_sld hx hb hX0 hbl hbA hWc.2.2 hq.1 dL_law_1687 ?_
    have hq := hq.2
    refine lv_if_eq (tgt := 1695) hx hb dL_law_1688 (by decide) (fun c278 => ?_) (fun c278 => ?_)
    · have hq := hq.1 c278
      refine lv_iconst (v := 0) hx hb dL_law_1695 (by decide) ?_
      refine k_ll hWm hWc (fun q a b => hdis q b a) (va_runV (As := [.long ((lshl ((xs (ix (x3 + 1))).toInt64) 32) ||| (((xs (ix (x3 + 2))).toInt64) &&& 4294967295)), .int 0]) (rest := [.long r277]) ⟨hx, hb, hml, hown, hts⟩ (c_X12_unpair l Gm hm ((lshl ((xs (ix (x3 + 1))).toInt64) 32) ||| (((xs (ix (x3 + 2))).toInt64) &&& 4294967295)) 0 _ hq) (cwV 2 hts (gL_V mw1507 mw1508 mw1509 mw5 mw1510) rfl rfl rfl (by decide +kernel) ⟨Nat.le_of_ble_eq_true rfl, Nat.le_of_ble_eq_true rfl⟩) (k_preV (hKM hK) hWm (shM_lt rfl (by decide)) (ceM_12 rfl) (q := (RX12, TX12, 73)) rfl) rfl rfl hl.1 rfl (lv_room (Nat.le_of_ble_eq_true rfl)) dL_law_1696 ⟨Nat.le_refl _, Nat.le_refl _⟩) (fun r280 h279 H locs hq hWm hWc => ?_)
      rw [hq.1] at hWm
      have hq := hq.2
      refine W.lcmp hx hb dL_law_1699 ?_
      refine lv_if_eq (tgt := 1798) hx hb dL_law_1700 (by decide) (fun c281 => ?_) (fun c281 => ?_)
      · have hq := hq.1 ((lg_cmp_eq _ _).mp c281)
        obtain ⟨x3_282, ex3_282⟩ : ∃ y : Int32, y = x3 + 6 := ⟨_, rfl⟩
        have hq := hq x3_282 ex3_282
        refine lv_iinc (v := x3_282) (lv' := [(3, .int x3_282), (0, .ref b), (1, .ref (Gc.2.2 0)), (2, .ref (Gm.2.2 0))]) hx hb dL_law_1798 hl (k := 3) rfl (by rw [ex3_282]; rfl) (by decide) rfl (fun ls hl => ?_)
        refine lv_goto (tgt := 18) hx hb dL_law_1801 (by decide) ?_
        exact hX _ _ _ _ _ _ hWc hWm (lv_sub hl [1, 2, 3, 0] rfl) hq
      · have hq := hq.2 (fun z => c281 ((lg_cmp_eq _ _).mpr z))
        refine lv_iconst (v := 0) hx hb dL_law_1703 (by decide) ?_
        exact hq.elim
    · have hq := hq.2 c278
      refine lv_iconst (v := 1) hx hb dL_law_1691 (by decide) ?_
      refine lv_goto (tgt := 1696) hx hb dL_law_1692 (by decide) ?_
      refine k_ll hWm hWc (fun q a b => hdis q b a) (va_runV (As := [.long ((lshl ((xs (ix (x3 + 1))).toInt64) 32) ||| (((xs (ix (x3 + 2))).toInt64) &&& 4294967295)), .int 1]) (rest := [.long r277]) ⟨hx, hb, hml, hown, hts⟩ (c_X12_unpair l Gm hm ((lshl ((xs (ix (x3 + 1))).toInt64) 32) ||| (((xs (ix (x3 + 2))).toInt64) &&& 4294967295)) 1 _ hq) (cwV 2 hts (gL_V mw1507 mw1508 mw1509 mw5 mw1510) rfl rfl rfl (by decide +kernel) ⟨Nat.le_of_ble_eq_true rfl, Nat.le_of_ble_eq_true rfl⟩) (k_preV (hKM hK) hWm (shM_lt rfl (by decide)) (ceM_12 rfl) (q := (RX12, TX12, 73)) rfl) rfl rfl hl.1 rfl (lv_room (Nat.le_of_ble_eq_true rfl)) dL_law_1696 ⟨Nat.le_refl _, Nat.le_refl _⟩) (fun r284 h283 H locs hq hWm hWc => ?_)
      rw [hq.1] at hWm
      have hq := hq.2
      refine W.lcmp hx hb dL_law_1699 ?_
      refine lv_if_eq (tgt := 1798) hx hb dL_law_1700 (by decide) (fun c285 => ?_) (fun c285 => ?_)
      · have hq := hq.1 ((lg_cmp_eq _ _).mp c285)
        obtain ⟨x3_286, ex3_286⟩ : ∃ y : Int32, y = x3 + 6 := ⟨_, rfl⟩
        have hq := hq x3_286 ex3_286
        refine lv_iinc (v := x3_286) (lv' := [(3, .int x3_286), (0, .ref b), (1, .ref (Gc.2.2 0)), (2, .ref (Gm.2.2 0))]) hx hb dL_law_1798 hl (k := 3) rfl (by rw [ex3_286]; rfl) (by decide) rfl (fun ls hl => ?_)
        refine lv_goto (tgt := 18) hx hb dL_law_1801 (by decide) ?_
        exact hX _ _ _ _ _ _ hWc hWm (lv_sub hl [1, 2, 3, 0] rfl) hq
      · have hq := hq.2 (fun z => c285 ((lg_cmp_eq _ _).mpr z))
        refine lv_iconst (v := 0) hx hb dL_law_1703 (by decide) ?_
        exact hq.elim
theorem k_law_1705 {p : Program} {l : Launch} {e : Env} {s : State} {m : MethodId} {below : List Frame} {meth : Method} {c : Code} {b L : Nat} {xs : Nat → Int32} {Gc Gm : wG} (hL : L ≤ 3072) (C0 : lw_At p s m meth c b L xs) (hK : kK Gc s ∧ kK Gm s) (hdis : ∀ q, aS SC Gc q → aS SM Gm q → False) {X : Int32 × hp × hp → Prop} (hX : ∀ (x3 : Int32) (hc hm : hp) (H : Heap) (locs : List Loc) (ls : Array Slot), kW SC Gc hc (lA s) s H locs → kW SM Gm hm (lA s) s H locs → lv_has ls 4 [(0, .ref b), (1, .ref (Gc.2.2 0)), (2, .ref (Gm.2.2 0)), (3, .int x3)] → X (x3, hc, hm) → W p l e room_1 s m #[Value.ref b] below meth c H locs 600000 7302250 (lw_Z below #[Value.ref b] s) (F0 m 18 ls [])) {x3 : Int32} {hc hm : hp} {H : Heap} {locs : List Loc} {ls : Array Slot} (hWc : kW SC Gc hc (lA s) s H locs) (hWm : kW SM Gm hm (lA s) s H locs) (hl : lv_has ls 4 [(0, .ref b), (1, .ref (Gc.2.2 0)), (2, .ref (Gm.2.2 0)), (3, .int x3)]) (hq : w_law_1705 L xs X x3 hc hm) : W p l e room_1 s m #[Value.ref b] below meth c H locs 600000 7302250 (lw_Z below #[Value.ref b] s) (F0 m 1705 ls []) := by
  obtain ⟨hx, hb, hr, hml, hown, hts, hX0, hbl, hlocks, hgv⟩ := id C0
  have hbA : ¬ lA s b := Nat.not_le.mpr hbl
  unfold w_law_1705 at hq
  refine lv_aload_n hx hb dL_law_1705 rfl (lv_at hl 1 rfl) ?_
  refine lv_aload_n hx hb dL_law_1706 rfl (lv_at hl 0 rfl) ?_
  refine lv_iload_n hx hb dL_law_1707 rfl (lv_at hl 3 rfl) ?_
  refine lv_iconst (v := 1) hx hb dL_law_1708 (by decide) ?_
  refine lv_iadd hx hb dL_law_1709 ?_
  refine va_sld hx hb hX0 hbl hbA hWc.2.2 hq.1 dL_law_1710 ?_
  have hq := hq.2
  refine k_ll hWc hWm hdis (va_runV (As := [.int (xs (ix (x3 + 1)))]) (rest := []) ⟨hx, hb, hml, hown, hts⟩ (c_X11_number l Gc hc (xs (ix (x3 + 1))) _ hq) (cwV 1 hts (gL_V mw1512 mw1513 mw1514 mw2 mw1515) rfl rfl rfl (by decide +kernel) ⟨Nat.le_of_ble_eq_true rfl, Nat.le_of_ble_eq_true rfl⟩) (k_preV (hKC hK) hWc (shC_lt rfl (by decide)) (ceC_11 rfl) (q := (RX11, TX11, 11)) rfl) rfl rfl hl.1 rfl (lv_room (Nat.le_of_ble_eq_true rfl)) dL_law_1711 ⟨Nat.le_refl _, Nat.le_refl _⟩) (fun r288 h287 H locs hq hWc hWm => ?_)
  rw [hq.1] at hWc
  have hq := hq.2
  refine lv_aload_n hx hb dL_law_1714 rfl (lv_at hl 2 rfl) ?_
  refine lv_aload_n hx hb dL_law_1715 rfl (lv_at hl 0 rfl) ?_
  refine lv_iload_n hx hb dL_law_1716 rfl (lv_at hl 3 rfl) ?_
  refine lv_iconst (v := 1) hx hb dL_law_1717 (by decide) ?_
  refine lv_iadd hx hb dL_law_1718 ?_
  refine va_sld hx hb hX0 hbl hbA hWc.2.2 hq.1 dL_law_1719 ?_
  have hq := hq.2
  refine k_ll hWm hWc (fun q a b => hdis q b a) (va_runV (As := [.int (xs (ix (x3 + 1)))]) (rest := [.long r288]) ⟨hx, hb, hml, hown, hts⟩ (c_X12_number l Gm hm (xs (ix (x3 + 1))) _ hq) (cwV 1 hts (gL_V mw1516 mw1517 mw1518 mw5 mw1519) rfl rfl rfl (by decide +kernel) ⟨Nat.le_of_ble_eq_true rfl, Nat.le_of_ble_eq_true rfl⟩) (k_preV (hKM hK) hWm (shM_lt rfl (by decide)) (ceM_12 rfl) (q := (RX12, TX12, 73)) rfl) rfl rfl hl.1 rfl (lv_room (Nat.le_of_ble_eq_true rfl)) dL_law_1720 ⟨Nat.le_refl _, Nat.le_refl _⟩) (fun r290 h289 H locs hq hWm hWc => ?_)
  rw [hq.1] at hWm
  have hq := hq.2
  refine W.lcmp hx hb dL_law_1723 ?_
  refine lv_if_eq (tgt := 1798) hx hb dL_law_1724 (by decide) (fun c291 => ?_) (fun c291 => ?_)
  · have hq := hq.1 ((lg_cmp_eq _ _).mp c291)
    obtain ⟨x3_292, ex3_292⟩ : ∃ y : Int32, y = x3 + 6 := ⟨_, rfl⟩
    have hq := hq x3_292 ex3_292
    refine lv_iinc (v := x3_292) (lv' := [(3, .int x3_292), (0, .ref b), (1, .ref (Gc.2.2 0)), (2, .ref (Gm.2.2 0))]) hx hb dL_law_1798 hl (k := 3) rfl (by rw [ex3_292]; rfl) (by decide) rfl (fun ls hl => ?_)
    refine lv_goto (tgt := 18) hx hb dL_law_1801 (by decide) ?_
    exact hX _ _ _ _ _ _ hWc hWm (lv_sub hl [1, 2, 3, 0] rfl) hq
  · have hq := hq.2 (fun z => c291 ((lg_cmp_eq _ _).mpr z))
    refine lv_iconst (v := 0) hx hb dL_law_1727 (by decide) ?_
    exact hq.elim
theorem k_law_1729 {p : Program} {l : Launch} {e : Env} {s : State} {m : MethodId} {below : List Frame} {meth : Method} {c : Code} {b L : Nat} {xs : Nat → Int32} {Gc Gm : wG} (hL : L ≤ 3072) (C0 : lw_At p s m meth c b L xs) (hK : kK Gc s ∧ kK Gm s) (hdis : ∀ q, aS SC Gc q → aS SM Gm q → False) {X : Int32 × hp × hp → Prop} (hX : ∀ (x3 : Int32) (hc hm : hp) (H : Heap) (locs : List Loc) (ls : Array Slot), kW SC Gc hc (lA s) s H locs → kW SM Gm hm (lA s) s H locs → lv_has ls 4 [(0, .ref b), (1, .ref (Gc.2.2 0)), (2, .ref (Gm.2.2 0)), (3, .int x3)] → X (x3, hc, hm) → W p l e room_1 s m #[Value.ref b] below meth c H locs 600000 7302250 (lw_Z below #[Value.ref b] s) (F0 m 18 ls [])) {x3 : Int32} {hc hm : hp} {H : Heap} {locs : List Loc} {ls : Array Slot} (hWc : kW SC Gc hc (lA s) s H locs) (hWm : kW SM Gm hm (lA s) s H locs) (hl : lv_has ls 4 [(0, .ref b), (1, .ref (Gc.2.2 0)), (2, .ref (Gm.2.2 0)), (3, .int x3)]) (hq : w_law_1729 L xs X x3 hc hm) : W p l e room_1 s m #[Value.ref b] below meth c H locs 600000 7302250 (lw_Z below #[Value.ref b] s) (F0 m 1729 ls []) := by
  obtain ⟨hx, hb, hr, hml, hown, hts, hX0, hbl, hlocks, hgv⟩ := id C0
  have hbA : ¬ lA s b := Nat.not_le.mpr hbl
  unfold w_law_1729 at hq
  refine lv_aload_n hx hb dL_law_1729 rfl (lv_at hl 1 rfl) ?_
  refine lv_aload_n hx hb dL_law_1730 rfl (lv_at hl 0 rfl) ?_
  refine lv_iload_n hx hb dL_law_1731 rfl (lv_at hl 3 rfl) ?_
  refine lv_iconst (v := 1) hx hb dL_law_1732 (by decide) ?_
  refine lv_iadd hx hb dL_law_1733 ?_
  refine va_sld hx hb hX0 hbl hbA hWc.2.2 hq.1 dL_law_1734 ?_
  have hq := hq.2
  refine k_li hWc hWm hdis (va_runV (As := [.int (xs (ix (x3 + 1)))]) (rest := []) ⟨hx, hb, hml, hown, hts⟩ (c_X11_hold l Gc hc (xs (ix (x3 + 1))) _ hq) (cwV 1 hts (gL_V mw1520 mw1521 mw1522 mw2 mw1523) rfl rfl rfl (by decide +kernel) ⟨Nat.le_of_ble_eq_true rfl, Nat.le_of_ble_eq_true rfl⟩) (k_preV (hKC hK) hWc (shC_lt rfl (by decide)) (ceC_11 rfl) (q := (RX11, TX11, 11)) rfl) rfl rfl hl.1 rfl (lv_room (Nat.le_of_ble_eq_true rfl)) dL_law_1735 ⟨Nat.le_refl _, Nat.le_refl _⟩) (fun r294 h293 H locs hq hWc hWm => ?_)
  refine lv_aload_n hx hb dL_law_1738 rfl (lv_at hl 2 rfl) ?_
  refine lv_aload_n hx hb dL_law_1739 rfl (lv_at hl 0 rfl) ?_
  refine lv_iload_n hx hb dL_law_1740 rfl (lv_at hl 3 rfl) ?_
  refine lv_iconst (v := 1) hx hb dL_law_1741 (by decide) ?_
  refine lv_iadd hx hb dL_law_1742 ?_
  refine va_sld hx hb hX0 hbl hbA hWc.2.2 hq.1 dL_law_1743 ?_
  have hq := hq.2
  refine k_li hWm hWc (fun q a b => hdis q b a) (va_runV (As := [.int (xs (ix (x3 + 1)))]) (rest := [.int r294]) ⟨hx, hb, hml, hown, hts⟩ (c_X12_hold l Gm hm (xs (ix (x3 + 1))) _ hq) (cwV 1 hts (gL_V mw1532 mw1533 mw1534 mw5 mw1535) rfl rfl rfl (by decide +kernel) ⟨Nat.le_of_ble_eq_true rfl, Nat.le_of_ble_eq_true rfl⟩) (k_preV (hKM hK) hWm (shM_lt rfl (by decide)) (ceM_12 rfl) (q := (RX12, TX12, 73)) rfl) rfl rfl hl.1 rfl (lv_room (Nat.le_of_ble_eq_true rfl)) dL_law_1744 ⟨Nat.le_refl _, Nat.le_refl _⟩) (fun r296 h295 H locs hq hWm hWc => ?_)
  refine lv_icmp_eq (tgt := 1798) hx hb dL_law_1747 (by decide) (fun c297 => ?_) (fun c297 => ?_)
  · have hq := hq.1 c297
    obtain ⟨x3_298, ex3_298⟩ : ∃ y : Int32, y = x3 + 6 := ⟨_, rfl⟩
    have hq := hq x3_298 ex3_298
    refine lv_iinc (v := x3_298) (lv' := [(3, .int x3_298), (0, .ref b), (1, .ref (Gc.2.2 0)), (2, .ref (Gm.2.2 0))]) hx hb dL_law_1798 hl (k := 3) rfl (by rw [ex3_298]; rfl) (by decide) rfl (fun ls hl => ?_)
    refine lv_goto (tgt := 18) hx hb dL_law_1801 (by decide) ?_
    exact hX _ _ _ _ _ _ hWc hWm (lv_sub hl [1, 2, 3, 0] rfl) hq
  · have hq := hq.2 c297
    refine lv_iconst (v := 0) hx hb dL_law_1750 (by decide) ?_
    exact hq.elim
theorem k_law_1752 {p : Program} {l : Launch} {e : Env} {s : State} {m : MethodId} {below : List Frame} {meth : Method} {c : Code} {b L : Nat} {xs : Nat → Int32} {Gc Gm : wG} (hL : L ≤ 3072) (C0 : lw_At p s m meth c b L xs) (hK : kK Gc s ∧ kK Gm s) (hdis : ∀ q, aS SC Gc q → aS SM Gm q → False) {X : Int32 × hp × hp → Prop} (hX : ∀ (x3 : Int32) (hc hm : hp) (H : Heap) (locs : List Loc) (ls : Array Slot), kW SC Gc hc (lA s) s H locs → kW SM Gm hm (lA s) s H locs → lv_has ls 4 [(0, .ref b), (1, .ref (Gc.2.2 0)), (2, .ref (Gm.2.2 0)), (3, .int x3)] → X (x3, hc, hm) → W p l e room_1 s m #[Value.ref b] below meth c H locs 600000 7302250 (lw_Z below #[Value.ref b] s) (F0 m 18 ls [])) {x3 : Int32} {hc hm : hp} {H : Heap} {locs : List Loc} {ls : Array Slot} (hWc : kW SC Gc hc (lA s) s H locs) (hWm : kW SM Gm hm (lA s) s H locs) (hl : lv_has ls 4 [(0, .ref b), (1, .ref (Gc.2.2 0)), (2, .ref (Gm.2.2 0)), (3, .int x3)]) (hq : w_law_1752 L xs X x3 hc hm) : W p l e room_1 s m #[Value.ref b] below meth c H locs 600000 7302250 (lw_Z below #[Value.ref b] s) (F0 m 1752 ls []) := by
  obtain ⟨hx, hb, hr, hml, hown, hts, hX0, hbl, hlocks, hgv⟩ := id C0
  have hbA : ¬ lA s b := Nat.not_le.mpr hbl
  unfold w_law_1752 at hq
  refine lv_aload_n hx hb dL_law_1752 rfl (lv_at hl 1 rfl) ?_
  refine lv_aload_n hx hb dL_law_1753 rfl (lv_at hl 0 rfl) ?_
  refine lv_iload_n hx hb dL_law_1754 rfl (lv_at hl 3 rfl) ?_
  refine lv_iconst (v := 1) hx hb dL_law_1755 (by decide) ?_
  refine lv_iadd hx hb dL_law_1756 ?_
  refine va_sld hx hb hX0 hbl hbA hWc.2.2 hq.1 dL_law_1757 ?_
  have hq := hq.2
  refine k_li hWc hWm hdis (va_runV (As := [.int (xs (ix (x3 + 1)))]) (rest := []) ⟨hx, hb, hml, hown, hts⟩ (c_X11_restore l Gc hc (xs (ix (x3 + 1))) _ hq) (cwV 1 hts (gL_V mw1536 mw1537 mw1538 mw2 mw1539) rfl rfl rfl (by decide +kernel) ⟨Nat.le_of_ble_eq_true rfl, Nat.le_of_ble_eq_true rfl⟩) (k_preV (hKC hK) hWc (shC_lt rfl (by decide)) (ceC_11 rfl) (q := (RX11, TX11, 11)) rfl) rfl rfl hl.1 rfl (lv_room (Nat.le_of_ble_eq_true rfl)) dL_law_1758 ⟨Nat.le_refl _, Nat.le_refl _⟩) (fun r300 h299 H locs hq hWc hWm => ?_)
  refine lv_aload_n hx hb dL_law_1761 rfl (lv_at hl 2 rfl) ?_
  refine lv_aload_n hx hb dL_law_1762 rfl (lv_at hl 0 rfl) ?_
  refine lv_iload_n hx hb dL_law_1763 rfl (lv_at hl 3 rfl) ?_
  refine lv_iconst (v := 1) hx hb dL_law_1764 (by decide) ?_
  refine lv_iadd hx hb dL_law_1765 ?_
  refine va_sld hx hb hX0 hbl hbA hWc.2.2 hq.1 dL_law_1766 ?_
  have hq := hq.2
  refine k_li hWm hWc (fun q a b => hdis q b a) (va_runV (As := [.int (xs (ix (x3 + 1)))]) (rest := [.int r300]) ⟨hx, hb, hml, hown, hts⟩ (c_X12_restore l Gm hm (xs (ix (x3 + 1))) _ hq) (cwV 1 hts (gL_V mw1540 mw1541 mw1542 mw5 mw1543) rfl rfl rfl (by decide +kernel) ⟨Nat.le_of_ble_eq_true rfl, Nat.le_of_ble_eq_true rfl⟩) (k_preV (hKM hK) hWm (shM_lt rfl (by decide)) (ceM_12 rfl) (q := (RX12, TX12, 73)) rfl) rfl rfl hl.1 rfl (lv_room (Nat.le_of_ble_eq_true rfl)) dL_law_1767 ⟨Nat.le_refl _, Nat.le_refl _⟩) (fun r302 h301 H locs hq hWm hWc => ?_)
  refine lv_icmp_eq (tgt := 1798) hx hb dL_law_1770 (by decide) (fun c303 => ?_) (fun c303 => ?_)
  · have hq := hq.1 c303
    obtain ⟨x3_304, ex3_304⟩ : ∃ y : Int32, y = x3 + 6 := ⟨_, rfl⟩
    have hq := hq x3_304 ex3_304
    refine lv_iinc (v := x3_304) (lv' := [(3, .int x3_304), (0, .ref b), (1, .ref (Gc.2.2 0)), (2, .ref (Gm.2.2 0))]) hx hb dL_law_1798 hl (k := 3) rfl (by rw [ex3_304]; rfl) (by decide) rfl (fun ls hl => ?_)
    refine lv_goto (tgt := 18) hx hb dL_law_1801 (by decide) ?_
    exact hX _ _ _ _ _ _ hWc hWm (lv_sub hl [1, 2, 3, 0] rfl) hq
  · have hq := hq.2 c303
    refine lv_iconst (v := 0) hx hb dL_law_1773 (by decide) ?_
    exact hq.elim
theorem k_law_1775 {p : Program} {l : Launch} {e : Env} {s : State} {m : MethodId} {below : List Frame} {meth : Method} {c : Code} {b L : Nat} {xs : Nat → Int32} {Gc Gm : wG} (hL : L ≤ 3072) (C0 : lw_At p s m meth c b L xs) (hK : kK Gc s ∧ kK Gm s) (hdis : ∀ q, aS SC Gc q → aS SM Gm q → False) {X : Int32 × hp × hp → Prop} (hX : ∀ (x3 : Int32) (hc hm : hp) (H : Heap) (locs : List Loc) (ls : Array Slot), kW SC Gc hc (lA s) s H locs → kW SM Gm hm (lA s) s H locs → lv_has ls 4 [(0, .ref b), (1, .ref (Gc.2.2 0)), (2, .ref (Gm.2.2 0)), (3, .int x3)] → X (x3, hc, hm) → W p l e room_1 s m #[Value.ref b] below meth c H locs 600000 7302250 (lw_Z below #[Value.ref b] s) (F0 m 18 ls [])) {x3 : Int32} {hc hm : hp} {H : Heap} {locs : List Loc} {ls : Array Slot} (hWc : kW SC Gc hc (lA s) s H locs) (hWm : kW SM Gm hm (lA s) s H locs) (hl : lv_has ls 4 [(0, .ref b), (1, .ref (Gc.2.2 0)), (2, .ref (Gm.2.2 0)), (3, .int x3)]) (hq : w_law_1775 L xs X x3 hc hm) : W p l e room_1 s m #[Value.ref b] below meth c H locs 600000 7302250 (lw_Z below #[Value.ref b] s) (F0 m 1775 ls []) := by
  obtain ⟨hx, hb, hr, hml, hown, hts, hX0, hbl, hlocks, hgv⟩ := id C0
  have hbA : ¬ lA s b := Nat.not_le.mpr hbl
  unfold w_law_1775 at hq
  refine lv_aload_n hx hb dL_law_1775 rfl (lv_at hl 1 rfl) ?_
  refine lv_aload_n hx hb dL_law_1776 rfl (lv_at hl 0 rfl) ?_
  refine lv_iload_n hx hb dL_law_1777 rfl (lv_at hl 3 rfl) ?_
  refine lv_iconst (v := 1) hx hb dL_law_1778 (by decide) ?_
  refine lv_iadd hx hb dL_law_1779 ?_
  refine va_sld hx hb hX0 hbl hbA hWc.2.2 hq.1 dL_law_1780 ?_
  have hq := hq.2
  refine k_li hWc hWm hdis (va_runV (As := [.int (xs (ix (x3 + 1)))]) (rest := []) ⟨hx, hb, hml, hown, hts⟩ (c_X11_count l Gc hc (xs (ix (x3 + 1))) _ hq) (cwV 1 hts (gL_V mw1544 mw1545 mw1546 mw2 mw1547) rfl rfl rfl (by decide +kernel) ⟨Nat.le_of_ble_eq_true rfl, Nat.le_of_ble_eq_true rfl⟩) (k_preV (hKC hK) hWc (shC_lt rfl (by decide)) (ceC_11 rfl) (q := (RX11, TX11, 11)) rfl) rfl rfl hl.1 rfl (lv_room (Nat.le_of_ble_eq_true rfl)) dL_law_1781 ⟨Nat.le_refl _, Nat.le_refl _⟩) (fun r306 h305 H locs hq hWc hWm => ?_)
  rw [hq.1] at hWc
  have hq := hq.2
  refine lv_aload_n hx hb dL_law_1784 rfl (lv_at hl 2 rfl) ?_
  refine lv_aload_n hx hb dL_law_1785 rfl (lv_at hl 0 rfl) ?_
  refine lv_iload_n hx hb dL_law_1786 rfl (lv_at hl 3 rfl) ?_
  refine lv_iconst (v := 1) hx hb dL_law_1787 (by decide) ?_
  refine lv_iadd hx hb dL_law_1788 ?_
  refine va_sld hx hb hX0 hbl hbA hWc.2.2 hq.1 dL_law_1789 ?_
  have hq := hq.2
  refine k_li hWm hWc (fun q a b => hdis q b a) (va_runV (As := [.int (xs (ix (x3 + 1)))]) (rest := [.int r306]) ⟨hx, hb, hml, hown, hts⟩ (c_X12_count l Gm hm (xs (ix (x3 + 1))) _ hq) (cwV 1 hts (gL_V mw1553 mw1554 mw1555 mw5 mw1556) rfl rfl rfl (by decide +kernel) ⟨Nat.le_of_ble_eq_true rfl, Nat.le_of_ble_eq_true rfl⟩) (k_preV (hKM hK) hWm (shM_lt rfl (by decide)) (ceM_12 rfl) (q := (RX12, TX12, 73)) rfl) rfl rfl hl.1 rfl (lv_room (Nat.le_of_ble_eq_true rfl)) dL_law_1790 ⟨Nat.le_refl _, Nat.le_refl _⟩) (fun r308 h307 H locs hq hWm hWc => ?_)
  rw [hq.1] at hWm
  have hq := hq.2
  refine lv_icmp_eq (tgt := 1798) hx hb dL_law_1793 (by decide) (fun c309 => ?_) (fun c309 => ?_)
  · have hq := hq.1 c309
    obtain ⟨x3_310, ex3_310⟩ : ∃ y : Int32, y = x3 + 6 := ⟨_, rfl⟩
    have hq := hq x3_310 ex3_310
    refine lv_iinc (v := x3_310) (lv' := [(3, .int x3_310), (0, .ref b), (1, .ref (Gc.2.2 0)), (2, .ref (Gm.2.2 0))]) hx hb dL_law_1798 hl (k := 3) rfl (by rw [ex3_310]; rfl) (by decide) rfl (fun ls hl => ?_)
    refine lv_goto (tgt := 18) hx hb dL_law_1801 (by decide) ?_
    exact hX _ _ _ _ _ _ hWc hWm (lv_sub hl [1, 2, 3, 0] rfl) hq
  · have hq := hq.2 c309
    refine lv_iconst (v := 0) hx hb dL_law_1796 (by decide) ?_
    exact hq.elim
theorem k_law_b {p : Program} {l : Launch} {e : Env} {s : State} {m : MethodId} {below : List Frame} {meth : Method} {c : Code} {b L : Nat} {xs : Nat → Int32} {Gc Gm : wG} (hL : L ≤ 3072) (C0 : lw_At p s m meth c b L xs) (hK : kK Gc s ∧ kK Gm s) (hdis : ∀ q, aS SC Gc q → aS SM Gm q → False) {X : Int32 × hp × hp → Prop} (hX : ∀ (x3 : Int32) (hc hm : hp) (H : Heap) (locs : List Loc) (ls : Array Slot), kW SC Gc hc (lA s) s H locs → kW SM Gm hm (lA s) s H locs → lv_has ls 4 [(0, .ref b), (1, .ref (Gc.2.2 0)), (2, .ref (Gm.2.2 0)), (3, .int x3)] → X (x3, hc, hm) → W p l e room_1 s m #[Value.ref b] below meth c H locs 600000 7302250 (lw_Z below #[Value.ref b] s) (F0 m 18 ls [])) {x3 : Int32} {hc hm : hp} {H : Heap} {locs : List Loc} {ls : Array Slot} (hWc : kW SC Gc hc (lA s) s H locs) (hWm : kW SM Gm hm (lA s) s H locs) (hl : lv_has ls 4 [(0, .ref b), (1, .ref (Gc.2.2 0)), (2, .ref (Gm.2.2 0)), (3, .int x3)]) (hq : w_law_b L xs X x3 hc hm) : W p l e room_1 s m #[Value.ref b] below meth c H locs 600000 7302250 (lw_Z below #[Value.ref b] s) (F0 m 18 ls []) := by
  obtain ⟨hx, hb, hr, hml, hown, hts, hX0, hbl, hlocks, hgv⟩ := id C0
  have hbA : ¬ lA s b := Nat.not_le.mpr hbl
  unfold w_law_b at hq
  refine lv_iload_n hx hb dL_law_18 rfl (lv_at hl 3 rfl) ?_
  refine lv_aload_n hx hb dL_law_19 rfl (lv_at hl 0 rfl) ?_
  refine va_slen hx hb hX0 hbl hbA hWc.2.2 dL_law_20 ?_
  refine lv_bipush (v := 6) hx hb dL_law_21 (by decide) ?_
  refine lv_isub hx hb dL_law_23 ?_
  refine lv_icmp_gt (tgt := 1804) hx hb dL_law_24 (by decide) (fun c311 => ?_) (fun c311 => ?_)
  · have hq := hq.1 c311
    refine lv_iconst (v := 1) hx hb dL_law_1804 (by decide) ?_
    exact k_lend hL C0 hWc dL_law_1805
  · have hq := hq.2 c311
    refine lv_aload_n hx hb dL_law_27 rfl (lv_at hl 0 rfl) ?_
    refine lv_iload_n hx hb dL_law_28 rfl (lv_at hl 3 rfl) ?_
    refine va_sld hx hb hX0 hbl hbA hWc.2.2 hq.1 dL_law_29 ?_
    have hq := hq.2
    refine lv_bipush (v := 63) hx hb dL_law_30 (by decide) ?_
    refine lv_iand hx hb dL_law_32 ?_
    refine lv_topi (fun sw312 esw312 => ?_)
    have hq := hq sw312 esw312
    by_cases c313 : sw312 = 0
    · have hq := hq.1 c313
      refine k_top c313 ?_
      refine lv_tableIn (tgt := 232) (off := 199) hx hb dL_law_33 (by decide) (by decide) (by decide) (by decide) ?_
      exact k_law_232 hL C0 hK hdis hX hWc hWm hl hq
    have hq := hq.2
    by_cases c314 : sw312 = 1
    · have hq := hq.1 c314
      refine k_top c314 ?_
      refine lv_tableIn (tgt := 295) (off := 262) hx hb dL_law_33 (by decide) (by decide) (by decide) (by decide) ?_
      exact k_law_295 hL C0 hK hdis hX hWc hWm hl hq
    have hq := hq.2
    by_cases c315 : sw312 = 2
    · have hq := hq.1 c315
      refine k_top c315 ?_
      refine lv_tableIn (tgt := 318) (off := 285) hx hb dL_law_33 (by decide) (by decide) (by decide) (by decide) ?_
      exact k_law_318 hL C0 hK hdis hX hWc hWm hl hq
    have hq := hq.2
    by_cases c316 : sw312 = 3
    · have hq := hq.1 c316
      refine k_top c316 ?_
      refine lv_tableIn (tgt := 331) (off := 298) hx hb dL_law_33 (by decide) (by decide) (by decide) (by decide) ?_
      exact k_law_331 hL C0 hK hdis hX hWc hWm hl hq
    have hq := hq.2
    by_cases c317 : sw312 = 4
    · have hq := hq.1 c317
      refine k_top c317 ?_
      refine lv_tableIn (tgt := 344) (off := 311) hx hb dL_law_33 (by decide) (by decide) (by decide) (by decide) ?_
      exact k_law_344 hL C0 hK hdis hX hWc hWm hl hq
    have hq := hq.2
    by_cases c318 : sw312 = 5
    · have hq := hq.1 c318
      refine k_top c318 ?_
      refine lv_tableIn (tgt := 377) (off := 344) hx hb dL_law_33 (by decide) (by decide) (by decide) (by decide) ?_
      exact k_law_377 hL C0 hK hdis hX hWc hWm hl hq
    have hq := hq.2
    by_cases c319 : sw312 = 6
    · have hq := hq.1 c319
      refine k_top c319 ?_
      refine lv_tableIn (tgt := 411) (off := 378) hx hb dL_law_33 (by decide) (by decide) (by decide) (by decide) ?_
      exact k_law_411 hL C0 hK hdis hX hWc hWm hl hq
    have hq := hq.2
    by_cases c320 : sw312 = 7
    · have hq := hq.1 c320
      refine k_top c320 ?_
      refine lv_tableIn (tgt := 445) (off := 412) hx hb dL_law_33 (by decide) (by decide) (by decide) (by decide) ?_
      exact k_law_445 hL C0 hK hdis hX hWc hWm hl hq
    have hq := hq.2
    by_cases c321 : sw312 = 8
    · have hq := hq.1 c321
      refine k_top c321 ?_
      refine lv_tableIn (tgt := 518) (off := 485) hx hb dL_law_33 (by decide) (by decide) (by decide) (by decide) ?_
      exact k_law_518 hL C0 hK hdis hX hWc hWm hl hq
    have hq := hq.2
    by_cases c322 : sw312 = 9
    · have hq := hq.1 c322
      refine k_top c322 ?_
      refine lv_tableIn (tgt := 567) (off := 534) hx hb dL_law_33 (by decide) (by decide) (by decide) (by decide) ?_
      exact k_law_567 hL C0 hK hdis hX hWc hWm hl hq
    have hq := hq.2
    by_cases c323 : sw312 = 10
    · have hq := hq.1 c323
      refine k_top c323 ?_
      refine lv_tableIn (tgt := 600) (off := 567) hx hb dL_law_33 (by decide) (by decide) (by decide) (by decide) ?_
      exact k_law_600 hL C0 hK hdis hX hWc hWm hl hq
    have hq := hq.2
    by_cases c324 : sw312 = 11
    · have hq := hq.1 c324
      refine k_top c324 ?_
      refine lv_tableIn (tgt := 663) (off := 630) hx hb dL_law_33 (by decide) (by decide) (by decide) (by decide) ?_
      exact k_law_663 hL C0 hK hdis hX hWc hWm hl hq
    have hq := hq.2
    by_cases c325 : sw312 = 12
    · have hq := hq.1 c325
      refine k_top c325 ?_
      refine lv_tableIn (tgt := 676) (off := 643) hx hb dL_law_33 (by decide) (by decide) (by decide) (by decide) ?_
      exact k_law_676 hL C0 hK hdis hX hWc hWm hl hq
    have hq := hq.2
    by_cases c326 : sw312 = 13
    · have hq := hq.1 c326
      refine k_top c326 ?_
      refine lv_tableIn (tgt := 729) (off := 696) hx hb dL_law_33 (by decide) (by decide) (by decide) (by decide) ?_
      exact k_law_729 hL C0 hK hdis hX hWc hWm hl hq
    have hq := hq.2
    by_cases c327 : sw312 = 14
    · have hq := hq.1 c327
      refine k_top c327 ?_
      refine lv_tableIn (tgt := 772) (off := 739) hx hb dL_law_33 (by decide) (by decide) (by decide) (by decide) ?_
      exact k_law_772 hL C0 hK hdis hX hWc hWm hl hq
    have hq := hq.2
    by_cases c328 : sw312 = 15
    · have hq := hq.1 c328
      refine k_top c328 ?_
      refine lv_tableIn (tgt := 825) (off := 792) hx hb dL_law_33 (by decide) (by decide) (by decide) (by decide) ?_
      exact k_law_825 hL C0 hK hdis hX hWc hWm hl hq
    have hq := hq.2
    by_cases c329 : sw312 = 16
    · have hq := hq.1 c329
      refine k_top c329 ?_
      refine lv_tableIn (tgt := 868) (off := 835) hx hb dL_law_33 (by decide) (by decide) (by decide) (by decide) ?_
      exact k_law_868 hL C0 hK hdis hX hWc hWm hl hq
    have hq := hq.2
    by_cases c330 : sw312 = 17
    · have hq := hq.1 c330
      refine k_top c330 ?_
      refine lv_tableIn (tgt := 921) (off := 888) hx hb dL_law_33 (by decide) (by decide) (by decide) (by decide) ?_
      exact k_law_921 hL C0 hK hdis hX hWc hWm hl hq
    have hq := hq.2
    by_cases c331 : sw312 = 18
    · have hq := hq.1 c331
      refine k_top c331 ?_
      refine lv_tableIn (tgt := 934) (off := 901) hx hb dL_law_33 (by decide) (by decide) (by decide) (by decide) ?_
      exact k_law_934 hL C0 hK hdis hX hWc hWm hl hq
    have hq := hq.2
    by_cases c332 : sw312 = 19
    · have hq := hq.1 c332
      refine k_top c332 ?_
      refine lv_tableIn (tgt := 957) (off := 924) hx hb dL_law_33 (by decide) (by decide) (by decide) (by decide) ?_
      exact k_law_957 hL C0 hK hdis hX hWc hWm hl hq
    have hq := hq.2
    by_cases c333 : sw312 = 20
    · have hq := hq.1 c333
      refine k_top c333 ?_
      refine lv_tableIn (tgt := 990) (off := 957) hx hb dL_law_33 (by decide) (by decide) (by decide) (by decide) ?_
      exact k_law_990 hL C0 hK hdis hX hWc hWm hl hq
    have hq := hq.2
    by_cases c334 : sw312 = 21
    · have hq := hq.1 c334
      refine k_top c334 ?_
      refine lv_tableIn (tgt := 1023) (off := 990) hx hb dL_law_33 (by decide) (by decide) (by decide) (by decide) ?_
      exact k_law_1023 hL C0 hK hdis hX hWc hWm hl hq
    have hq := hq.2
    by_cases c335 : sw312 = 22
    · have hq := hq.1 c335
      refine k_top c335 ?_
      refine lv_tableIn (tgt := 1056) (off := 1023) hx hb dL_law_33 (by decide) (by decide) (by decide) (by decide) ?_
      exact k_law_1056 hL C0 hK hdis hX hWc hWm hl hq
    have hq := hq.2
    by_cases c336 : sw312 = 23
    · have hq := hq.1 c336
      refine k_top c336 ?_
      refine lv_tableIn (tgt := 1089) (off := 1056) hx hb dL_law_33 (by decide) (by decide) (by decide) (by decide) ?_
      exact k_law_1089 hL C0 hK hdis hX hWc hWm hl hq
    have hq := hq.2
    by_cases c337 : sw312 = 24
    · have hq := hq.1 c337
      refine k_top c337 ?_
      refine lv_tableIn (tgt := 1102) (off := 1069) hx hb dL_law_33 (by decide) (by decide) (by decide) (by decide) ?_
      exact k_law_1102 hL C0 hK hdis hX hWc hWm hl hq
    have hq := hq.2
    by_cases c338 : sw312 = 25
    · have hq := hq.1 c338
      refine k_top c338 ?_
      refine lv_tableIn (tgt := 1125) (off := 1092) hx hb dL_law_33 (by decide) (by decide) (by decide) (by decide) ?_
      exact k_law_1125 hL C0 hK hdis hX hWc hWm hl hq
    have hq := hq.2
    by_cases c339 : sw312 = 26
    · have hq := hq.1 c339
      refine k_top c339 ?_
      refine lv_tableIn (tgt := 1158) (off := 1125) hx hb dL_law_33 (by decide) (by decide) (by decide) (by decide) ?_
      exact k_law_1158 hL C0 hK hdis hX hWc hWm hl hq
    have hq := hq.2
    by_cases c340 : sw312 = 27
    · have hq := hq.1 c340
      refine k_top c340 ?_
      refine lv_tableIn (tgt := 1181) (off := 1148) hx hb dL_law_33 (by decide) (by decide) (by decide) (by decide) ?_
      exact k_law_1181 hL C0 hK hdis hX hWc hWm hl hq
    have hq := hq.2
    by_cases c341 : sw312 = 28
    · have hq := hq.1 c341
      refine k_top c341 ?_
      refine lv_tableIn (tgt := 1204) (off := 1171) hx hb dL_law_33 (by decide) (by decide) (by decide) (by decide) ?_
      exact k_law_1204 hL C0 hK hdis hX hWc hWm hl hq
    have hq := hq.2
    by_cases c342 : sw312 = 29
    · have hq := hq.1 c342
      refine k_top c342 ?_
      refine lv_tableIn (tgt := 1228) (off := 1195) hx hb dL_law_33 (by decide) (by decide) (by decide) (by decide) ?_
      exact k_law_1228 hL C0 hK hdis hX hWc hWm hl hq
    have hq := hq.2
    by_cases c343 : sw312 = 30
    · have hq := hq.1 c343
      refine k_top c343 ?_
      refine lv_tableIn (tgt := 1241) (off := 1208) hx hb dL_law_33 (by decide) (by decide) (by decide) (by decide) ?_
      exact k_law_1241 hL C0 hK hdis hX hWc hWm hl hq
    have hq := hq.2
    by_cases c344 : sw312 = 31
    · have hq := hq.1 c344
      refine k_top c344 ?_
      refine lv_tableIn (tgt := 1284) (off := 1251) hx hb dL_law_33 (by decide) (by decide) (by decide) (by decide) ?_
      exact k_law_1284 hL C0 hK hdis hX hWc hWm hl hq
    have hq := hq.2
    by_cases c345 : sw312 = 32
    · have hq := hq.1 c345
      refine k_top c345 ?_
      refine lv_tableIn (tgt := 1317) (off := 1284) hx hb dL_law_33 (by decide) (by decide) (by decide) (by decide) ?_
      exact k_law_1317 hL C0 hK hdis hX hWc hWm hl hq
    have hq := hq.2
    by_cases c346 : sw312 = 33
    · have hq := hq.1 c346
      refine k_top c346 ?_
      refine lv_tableIn (tgt := 1340) (off := 1307) hx hb dL_law_33 (by decide) (by decide) (by decide) (by decide) ?_
      exact k_law_1340 hL C0 hK hdis hX hWc hWm hl hq
    have hq := hq.2
    by_cases c347 : sw312 = 34
    · have hq := hq.1 c347
      refine k_top c347 ?_
      refine lv_tableIn (tgt := 1363) (off := 1330) hx hb dL_law_33 (by decide) (by decide) (by decide) (by decide) ?_
      exact k_law_1363 hL C0 hK hdis hX hWc hWm hl hq
    have hq := hq.2
    by_cases c348 : sw312 = 35
    · have hq := hq.1 c348
      refine k_top c348 ?_
      refine lv_tableIn (tgt := 1426) (off := 1393) hx hb dL_law_33 (by decide) (by decide) (by decide) (by decide) ?_
      exact k_law_1426 hL C0 hK hdis hX hWc hWm hl hq
    have hq := hq.2
    by_cases c349 : sw312 = 36
    · have hq := hq.1 c349
      refine k_top c349 ?_
      refine lv_tableIn (tgt := 1459) (off := 1426) hx hb dL_law_33 (by decide) (by decide) (by decide) (by decide) ?_
      exact k_law_1459 hL C0 hK hdis hX hWc hWm hl hq
    have hq := hq.2
    by_cases c350 : sw312 = 37
    · have hq := hq.1 c350
      refine k_top c350 ?_
      refine lv_tableIn (tgt := 1492) (off := 1459) hx hb dL_law_33 (by decide) (by decide) (by decide) (by decide) ?_
      exact k_law_1492 hL C0 hK hdis hX hWc hWm hl hq
    have hq := hq.2
    by_cases c351 : sw312 = 38
    · have hq := hq.1 c351
      refine k_top c351 ?_
      refine lv_tableIn (tgt := 1535) (off := 1502) hx hb dL_law_33 (by decide) (by decide) (by decide) (by decide) ?_
      exact k_law_1535 hL C0 hK hdis hX hWc hWm hl hq
    have hq := hq.2
    by_cases c352 : sw312 = 39
    · have hq := hq.1 c352
      refine k_top c352 ?_
      refine lv_tableIn (tgt := 1578) (off := 1545) hx hb dL_law_33 (by decide) (by decide) (by decide) (by decide) ?_
      exact k_law_1578 hL C0 hK hdis hX hWc hWm hl hq
    have hq := hq.2
    by_cases c353 : sw312 = 40
    · have hq := hq.1 c353
      refine k_top c353 ?_
      refine lv_tableIn (tgt := 1591) (off := 1558) hx hb dL_law_33 (by decide) (by decide) (by decide) (by decide) ?_
      exact k_law_1591 hL C0 hK hdis hX hWc hWm hl hq
    have hq := hq.2
    by_cases c354 : sw312 = 41
    · have hq := hq.1 c354
      refine k_top c354 ?_
      refine lv_tableIn (tgt := 1625) (off := 1592) hx hb dL_law_33 (by decide) (by decide) (by decide) (by decide) ?_
      exact k_law_1625 hL C0 hK hdis hX hWc hWm hl hq
    have hq := hq.2
    by_cases c355 : sw312 = 42
    · have hq := hq.1 c355
      refine k_top c355 ?_
      refine lv_tableIn (tgt := 1705) (off := 1672) hx hb dL_law_33 (by decide) (by decide) (by decide) (by decide) ?_
      exact k_law_1705 hL C0 hK hdis hX hWc hWm hl hq
    have hq := hq.2
    by_cases c356 : sw312 = 43
    · have hq := hq.1 c356
      refine k_top c356 ?_
      refine lv_tableIn (tgt := 1729) (off := 1696) hx hb dL_law_33 (by decide) (by decide) (by decide) (by decide) ?_
      exact k_law_1729 hL C0 hK hdis hX hWc hWm hl hq
    have hq := hq.2
    by_cases c357 : sw312 = 44
    · have hq := hq.1 c357
      refine k_top c357 ?_
      refine lv_tableIn (tgt := 1752) (off := 1719) hx hb dL_law_33 (by decide) (by decide) (by decide) (by decide) ?_
      exact k_law_1752 hL C0 hK hdis hX hWc hWm hl hq
    have hq := hq.2
    by_cases c358 : sw312 = 45
    · have hq := hq.1 c358
      refine k_top c358 ?_
      refine lv_tableIn (tgt := 1775) (off := 1742) hx hb dL_law_33 (by decide) (by decide) (by decide) (by decide) ?_
      exact k_law_1775 hL C0 hK hdis hX hWc hWm hl hq
    have hq := hq.2
    have c359 : sw312.toInt < 0 ∨ 45 < sw312.toInt := by
      rcases Int.lt_or_le sw312.toInt 0 with q | q
      · exact Or.inl q
      · refine Or.inr (Int.not_le.mp fun q2 => ?_)
        have q3 : sw312 = Int32.ofInt sw312.toInt := (Int32.ofInt_toInt sw312).symm
        have q4 : sw312.toInt = 0 ∨ sw312.toInt = 1 ∨ sw312.toInt = 2 ∨ sw312.toInt = 3 ∨ sw312.toInt = 4 ∨ sw312.toInt = 5 ∨ sw312.toInt = 6 ∨ sw312.toInt = 7 ∨ sw312.toInt = 8 ∨ sw312.toInt = 9 ∨ sw312.toInt = 10 ∨ sw312.toInt = 11 ∨ sw312.toInt = 12 ∨ sw312.toInt = 13 ∨ sw312.toInt = 14 ∨ sw312.toInt = 15 ∨ sw312.toInt = 16 ∨ sw312.toInt = 17 ∨ sw312.toInt = 18 ∨ sw312.toInt = 19 ∨ sw312.toInt = 20 ∨ sw312.toInt = 21 ∨ sw312.toInt = 22 ∨ sw312.toInt = 23 ∨ sw312.toInt = 24 ∨ sw312.toInt = 25 ∨ sw312.toInt = 26 ∨ sw312.toInt = 27 ∨ sw312.toInt = 28 ∨ sw312.toInt = 29 ∨ sw312.toInt = 30 ∨ sw312.toInt = 31 ∨ sw312.toInt = 32 ∨ sw312.toInt = 33 ∨ sw312.toInt = 34 ∨ sw312.toInt = 35 ∨ sw312.toInt = 36 ∨ sw312.toInt = 37 ∨ sw312.toInt = 38 ∨ sw312.toInt = 39 ∨ sw312.toInt = 40 ∨ sw312.toInt = 41 ∨ sw312.toInt = 42 ∨ sw312.toInt = 43 ∨ sw312.toInt = 44 ∨ sw312.toInt = 45 := by omega
        rcases q4 with q4 | q4 | q4 | q4 | q4 | q4 | q4 | q4 | q4 | q4 | q4 | q4 | q4 | q4 | q4 | q4 | q4 | q4 | q4 | q4 | q4 | q4 | q4 | q4 | q4 | q4 | q4 | q4 | q4 | q4 | q4 | q4 | q4 | q4 | q4 | q4 | q4 | q4 | q4 | q4 | q4 | q4 | q4 | q4 | q4 | q4
        · exact c313 (q3.trans (by rw [q4]; rfl))
        · exact c314 (q3.trans (by rw [q4]; rfl))
        · exact c315 (q3.trans (by rw [q4]; rfl))
        · exact c316 (q3.trans (by rw [q4]; rfl))
        · exact c317 (q3.trans (by rw [q4]; rfl))
        · exact c318 (q3.trans (by rw [q4]; rfl))
        · exact c319 (q3.trans (by rw [q4]; rfl))
        · exact c320 (q3.trans (by rw [q4]; rfl))
        · exact c321 (q3.trans (by rw [q4]; rfl))
        · exact c322 (q3.trans (by rw [q4]; rfl))
        · exact c323 (q3.trans (by rw [q4]; rfl))
        · exact c324 (q3.trans (by rw [q4]; rfl))
        · exact c325 (q3.trans (by rw [q4]; rfl))
        · exact c326 (q3.trans (by rw [q4]; rfl))
        · exact c327 (q3.trans (by rw [q4]; rfl))
        · exact c328 (q3.trans (by rw [q4]; rfl))
        · exact c329 (q3.trans (by rw [q4]; rfl))
        · exact c330 (q3.trans (by rw [q4]; rfl))
        · exact c331 (q3.trans (by rw [q4]; rfl))
        · exact c332 (q3.trans (by rw [q4]; rfl))
        · exact c333 (q3.trans (by rw [q4]; rfl))
        · exact c334 (q3.trans (by rw [q4]; rfl))
        · exact c335 (q3.trans (by rw [q4]; rfl))
        · exact c336 (q3.trans (by rw [q4]; rfl))
        · exact c337 (q3.trans (by rw [q4]; rfl))
        · exact c338 (q3.trans (by rw [q4]; rfl))
        · exact c339 (q3.trans (by rw [q4]; rfl))
        · exact c340 (q3.trans (by rw [q4]; rfl))
        · exact c341 (q3.trans (by rw [q4]; rfl))
        · exact c342 (q3.trans (by rw [q4]; rfl))
        · exact c343 (q3.trans (by rw [q4]; rfl))
        · exact c344 (q3.trans (by rw [q4]; rfl))
        · exact c345 (q3.trans (by rw [q4]; rfl))
        · exact c346 (q3.trans (by rw [q4]; rfl))
        · exact c347 (q3.trans (by rw [q4]; rfl))
        · exact c348 (q3.trans (by rw [q4]; rfl))
        · exact c349 (q3.trans (by rw [q4]; rfl))
        · exact c350 (q3.trans (by rw [q4]; rfl))
        · exact c351 (q3.trans (by rw [q4]; rfl))
        · exact c352 (q3.trans (by rw [q4]; rfl))
        · exact c353 (q3.trans (by rw [q4]; rfl))
        · exact c354 (q3.trans (by rw [q4]; rfl))
        · exact c355 (q3.trans (by rw [q4]; rfl))
        · exact c356 (q3.trans (by rw [q4]; rfl))
        · exact c357 (q3.trans (by rw [q4]; rfl))
        · exact c358 (q3.trans (by rw [q4]; rfl))
    refine lv_tableOut (tgt := 1798) hx hb dL_law_33 c359 (by decide) ?_
    have hq := hq c359
    obtain ⟨x3_360, ex3_360⟩ : ∃ y : Int32, y = x3 + 6 := ⟨_, rfl⟩
    have hq := hq x3_360 ex3_360
    refine lv_iinc (v := x3_360) (lv' := [(3, .int x3_360), (0, .ref b), (1, .ref (Gc.2.2 0)), (2, .ref (Gm.2.2 0))]) hx hb dL_law_1798 hl (k := 3) rfl (by rw [ex3_360]; rfl) (by decide) rfl (fun ls hl => ?_)
    refine lv_goto (tgt := 18) hx hb dL_law_1801 (by decide) ?_
    exact hX _ _ _ _ _ _ hWc hWm (lv_sub hl [1, 2, 3, 0] rfl) hq
theorem k_law {p : Program} {l : Launch} {e : Env} {s : State} {m : MethodId} {below : List Frame} {meth : Method} {c : Code} {b L : Nat} {xs : Nat → Int32} {Gc Gm : wG} (hL : L ≤ 3072) (C0 : lw_At p s m meth c b L xs) (hK : kK Gc s ∧ kK Gm s) (hdis : ∀ q, aS SC Gc q → aS SM Gm q → False) {x3 : Int32} {hc hm : hp} {H : Heap} {locs : List Loc} {ls : Array Slot} (hWc : kW SC Gc hc (lA s) s H locs) (hWm : kW SM Gm hm (lA s) s H locs) (hl : lv_has ls 4 [(0, .ref b), (1, .ref (Gc.2.2 0)), (2, .ref (Gm.2.2 0)), (3, .int x3)]) (hq : w_law L xs x3 hc hm) : W p l e room_1 s m #[Value.ref b] below meth c H locs 600000 7302250 (lw_Z below #[Value.ref b] s) (F0 m 18 ls []) := by
  have key := hq (fun (q : Int32 × hp × hp) => ∀ (H : Heap) (locs : List Loc) (ls : Array Slot), kW SC Gc q.2.1 (lA s) s H locs → kW SM Gm q.2.2 (lA s) s H locs → lv_has ls 4 [(0, .ref b), (1, .ref (Gc.2.2 0)), (2, .ref (Gm.2.2 0)), (3, .int q.1)] → W p l e room_1 s m #[Value.ref b] below meth c H locs 600000 7302250 (lw_Z below #[Value.ref b] s) (F0 m 18 ls []))
    (fun q hq H locs ls hWc hWm hl => k_law_b hL C0 hK hdis (fun x3 hc hm H locs ls hWc hWm hl hI => hI H locs ls hWc hWm hl) hWc hWm hl hq)
  exact key _ _ _ hWc hWm hl
