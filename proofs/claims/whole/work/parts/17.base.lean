abbrev vwCl : List vw_C := [(RX0, TX0, 3), (RX1, TX1, 7), (RX2, TX2, 5), (RX3, TX3, 10), (RX4, TX4, 3), (RX5, TX5, 7), (RX6, TX6, 7), (RX7, TX7, 10), (RX8, TX8, 5), (RX9, TX9, 4), (RX10, TX10, 7), (RX11, TX11, 11), (RX12, TX12, 73)]
/-! The heap of a system whose cells never change their shapes: what each cell holds (ints, longs, the few references that change). -/
abbrev hp : Type := (Nat → Nat → Int32) × (Nat → Nat → Int64) × (Nat → Nat)
def gI (h : hp) (o k : Nat) : Int32 := h.1 o k
def gL (h : hp) (o k : Nat) : Int64 := h.2.1 o k
def gR (h : hp) (j : Nat) : Nat := h.2.2 j
def sI (h : hp) (o k : Nat) (v : Int32) : hp := (fun a j => if a = o ∧ j = k then v else h.1 a j, h.2)
def sL (h : hp) (o k : Nat) (v : Int64) : hp := (h.1, fun a j => if a = o ∧ j = k then v else h.2.1 a j, h.2.2)
def sR (h : hp) (i : Nat) (v : Nat) : hp := (h.1, h.2.1, fun a => if a = i then v else h.2.2 a)
def cI (h : hp) (src sp o dp n : Nat) : hp := (fun a => if a = o then va_cpy (h.1 src) (h.1 o) sp dp n else h.1 a, h.2)
def cL (h : hp) (src sp o dp n : Nat) : hp := (h.1, fun a => if a = o then va_cpy (h.2.1 src) (h.2.1 o) sp dp n else h.2.1 a, h.2.2)
abbrev ix (i : Int32) : Nat := i.toNatClampNeg
def jrem (x y : Int32) : Int32 := x - x / y * y
def lrem (x y : Int64) : Int64 := x - x / y * y
def jshl (x y : Int32) : Int32 := x <<< (y &&& 31)
def jshr (x y : Int32) : Int32 := x >>> (y &&& 31)
def jushr (x y : Int32) : Int32 := (x.toUInt32 >>> (y.toUInt32 &&& Int32.toUInt32 31)).toInt32
def lushr (x : Int64) (y : Int32) : Int64 := (x.toUInt64 >>> (y.toInt64.toUInt64 &&& Int64.toUInt64 63)).toInt64
def lshl (x : Int64) (y : Int32) : Int64 := x <<< (y.toInt64 &&& 63)
def jb (x : Int32) : Int32 := vp_nar .byte x
def jz (x : Int32) : Int32 := vp_nar .boolean x
/-- a loop: what holds of all that one turn leads back to (the least such) -/
def wLoop {σ : Type} (F : (σ → Prop) → σ → Prop) (s : σ) : Prop := ∀ X : σ → Prop, (∀ t, F X t → X t) → X s
abbrev wG : Type := va_G × (Nat → ClassId) × (Nat → Nat)
abbrev wS : Type := Nat × ((Nat → ClassId) → (Nat → Nat) → hp → Nat → va_E)
def lk (S : wS) (G : wG) (h : hp) : va_W := (List.range S.1).map (fun i => (G.2.2 i, S.2 G.2.1 G.2.2 h i))
def tysA (cy : Nat → ClassId) : List (ClassId × FieldType) := [(cy 13, .byte), (cy 14, .int), (cy 15, .long), (cy 16, .boolean), (cy 17, .object "TwoAsks$Told"), (cy 18, .array .long)]
theorem lk_len {S : wS} {G : wG} {h : hp} : (lk S G h).length = S.1 := by simp [lk]
theorem lk_get {S : wS} {G : wG} {h : hp} {o : Nat} (ho : o < S.1) {e : va_E} (he : S.2 G.2.1 G.2.2 h o = e) : (lk S G h)[o]? = some (G.2.2 o, e) := by
  subst he
  simp [lk, ho]
theorem lk_set {S : wS} {G : wG} {h h1 : hp} {o : Nat} (ho : o < S.1) {e : va_E} (he : S.2 G.2.1 G.2.2 h1 o = e) (hx : ∀ i, i ≠ o → S.2 G.2.1 G.2.2 h1 i = S.2 G.2.1 G.2.2 h i) : (lk S G h).set o (G.2.2 o, e) = lk S G h1 := by
  subst he
  apply List.ext_getElem?
  intro i
  by_cases hi : i = o
  · subst hi
    rw [List.getElem?_set_self (by rw [lk_len]; exact ho), lk_get ho rfl]
  · rw [List.getElem?_set_ne (fun e => hi e.symm)]
    by_cases hn : i < S.1
    · rw [lk_get hn rfl, lk_get hn rfl, hx i hi]
    · have h1 : ∀ g : hp, (lk S G g)[i]? = none := fun g => List.getElem?_eq_none_iff.mpr (by rw [lk_len]; omega)
      rw [h1, h1]
theorem lk_at {S : wS} {G : wG} {h : hp} {k : Nat} {q : Nat × va_E} (hk : (lk S G h)[k]? = some q) : k < S.1 ∧ q = (G.2.2 k, S.2 G.2.1 G.2.2 h k) := by
  have h1 : k < S.1 := by
    have := (List.getElem?_eq_some_iff.mp hk).1
    rw [lk_len] at this
    exact this
  refine ⟨h1, ?_⟩
  rw [lk_get h1 rfl] at hk
  exact (Option.some.inj hk).symm
theorem lk_D {S : wS} {G : wG} {h h1 : hp} {A : Nat → Prop} (hD : va_D A (lk S G h)) : va_D A (lk S G h1) := by
  refine ⟨fun i j p q hi hj e => ?_, fun k q hk => ?_⟩
  · obtain ⟨i1, rfl⟩ := lk_at hi
    obtain ⟨j1, rfl⟩ := lk_at hj
    exact hD.1 i j _ _ (lk_get i1 rfl) (lk_get j1 rfl) e
  · obtain ⟨k1, rfl⟩ := lk_at hk
    exact hD.2 k (G.2.2 k, S.2 G.2.1 G.2.2 h k) (lk_get k1 rfl)
/-- the addresses of a system -/
def aS (S : wS) (G : wG) : Nat → Prop := fun q => ∃ i, i < S.1 ∧ q = G.2.2 i
/-- the links between nest mates that the class's code takes -/
def nestL : List (String × Nat × MethodName × String) := [("TwoAsks$Reader", 115, yX11_within, "TwoAsks"), ("TwoAsks", 22, yX5_init, "TwoAsks"), ("TwoAsks$Text", 26, yX2_init, "TwoAsks"), ("TwoAsks$Text", 33, yX6_init, "TwoAsks"), ("TwoAsks$Text", 40, yX0_init, "TwoAsks"), ("TwoAsks$Reader", 40, yX3_init, "TwoAsks"), ("TwoAsks$LawReader", 11, yX2_init, "TwoAsks"), ("TwoAsks", 36, yX9_init, "TwoAsks"), ("TwoAsks", 53, yX10_init, "TwoAsks"), ("TwoAsks$Worlds", 34, yX4_init, "TwoAsks")]
def kNest (s : State) : Prop := ∀ q ∈ nestL, va_Nw (.methodLinkNest q.1 q.2.1 q.2.2.1 q.2.2.2) s
theorem kAO_same {ty : FieldType} {u U : State} (h : u.vm = U.vm) (hz : va_Nw (.arrayOver ty) u) : va_Nw (.arrayOver ty) U := by
  unfold va_Nw Cond.before Cond.holds at hz ⊢
  simp only [Cond.value] at hz ⊢
  rw [← h]
  exact hz
theorem kAO_warm {ty : FieldType} {s U : State} (hW : s.WarmedH U.vm) (h : va_Nw (.arrayOver ty) s) : va_Nw (.arrayOver ty) U :=
  kAO_same (u := s.setVm U.vm) rfl (by show (Cond.arrayOver ty).before #[] (s.setVm U.vm) = true; rw [Cond.arrayOver_setVmC hW.alike]; exact h)
def kAO (s : State) : Prop := va_Nw (.arrayOver (.object "TwoAsks$Told")) s ∧ va_Nw (.arrayOver (.array .long)) s
def kK (G : wG) (s : State) : Prop := va_K G.1 vwCl (tysA G.2.1) s ∧ kNest s ∧ kAO s
def kW (S : wS) (G : wG) (h : hp) (A : Nat → Prop) (s : State) (H : Heap) (locs : List Loc) : Prop := va_P G.1 vwCl (lk S G h) H ∧ va_D A (lk S G h) ∧ va_S A s.heap H locs
def kC (p : Program) (s : State) (m : MethodId) (args : Array Value) (meth : Method) (c : Code) (cc : ByteArray) (nL : Nat) (rt : Option FieldType) (own : String) (Ts : List Cond) : Prop :=
  p.tables.exec = Jvm.exec ∧ c.code = cc ∧ meth.sig.returnType = rt ∧ c.maxLocals = nL ∧ s.vm.findClass own = some m.cls ∧ (∀ w ∈ Ts, w.before args s = true) ∧ meth.locks = false
/-- what a method of a system needs at its start -/
def kPre (S : wS) (G : wG) (h : hp) (U : State) : Prop := va_P G.1 vwCl (lk S G h) U.heap ∧ kK G U ∧ va_D (fun _ => True) (lk S G h)
def kB (S : wS) (G : wG) (h : hp) (t : State) : Prop := va_P G.1 vwCl (lk S G h) t.heap
def ctI (l : Launch) (S : wS) (G : wG) (y : MethodName) (ws : List Cond) (rm : Room) (h : hp) (As : List Value) (Q : Int32 → hp → Prop) : Prop :=
  Met l y ws rm (va_Pc As (kPre S G h)) (va_Qi Q (kB S G) (aS S G)) 0 0 (aS S G)
def ctL (l : Launch) (S : wS) (G : wG) (y : MethodName) (ws : List Cond) (rm : Room) (h : hp) (As : List Value) (Q : Int64 → hp → Prop) : Prop :=
  Met l y ws rm (va_Pc As (kPre S G h)) (va_Ql Q (kB S G) (aS S G)) 0 0 (aS S G)
def ctV (l : Launch) (S : wS) (G : wG) (y : MethodName) (ws : List Cond) (rm : Room) (h : hp) (As : List Value) (Q : hp → Prop) : Prop :=
  Met l y ws rm (va_Pc As (kPre S G h)) (va_Qv Q (kB S G) (aS S G)) 0 0 (aS S G)
/-- an answer that is a cell of the system -/
def ctR (l : Launch) (S : wS) (G : wG) (y : MethodName) (ws : List Cond) (rm : Room) (h : hp) (As : List Value) (Q : Nat → hp → Prop) : Prop :=
  Met l y ws rm (va_Pc As (kPre S G h)) (va_Qr (fun u : Nat × hp => Q u.1 u.2) (fun u a t => a = G.2.2 u.1 ∧ kB S G u.2 t) (aS S G)) 0 0 (aS S G)
theorem kK_moved {G : wG} {s U : State} (hW : s.WarmedH U.vm) (h : kK G s) : kK G U := ⟨va_K.moved hW.alike h.1, fun q hq => va_Nw.warmM hW (h.2.1 q hq), kAO_warm hW h.2.2.1, kAO_warm hW h.2.2.2⟩
theorem kK_same {G : wG} {s U : State} (hW : s.vm = U.vm) (h : kK G s) : kK G U := ⟨va_K.moved (by rw [hW]; exact Vm.Alike.refl U.vm) h.1, fun q hq => va_Nw.same rfl hW (h.2.1 q hq), kAO_same hW h.2.2.1, kAO_same hW h.2.2.2⟩
theorem kPre_blind {S : wS} {G : wG} {h : hp} {As : List Value} : FrameBlind (va_Pc As (kPre S G h)) := fun a U g mk q => ⟨q.1, q.2.1, kK_same (s := U) (U := U.calling g mk a) rfl q.2.2.1, q.2.2.2⟩
theorem kW_pre {S : wS} {G : wG} {h : hp} {A : Nat → Prop} {s : State} {H : Heap} {locs : List Loc} (hK : kK G s) (hW : kW S G h A s H locs) {U : State} (hU : U.heap = H) (hwm : s.WarmedH U.vm) : kPre S G h U := by
  refine ⟨?_, kK_moved hwm hK, hW.2.1.weaken (fun _ _ _ _ => trivial)⟩
  rw [hU]
  exact hW.1
theorem kW_aS {S : wS} {G : wG} {h : hp} {A : Nat → Prop} {s : State} {H : Heap} {locs : List Loc} (hW : kW S G h A s H locs) : ∀ q, aS S G q → A q := by
  rintro q ⟨i, hi, rfl⟩
  exact hW.2.1.2 i _ (lk_get hi rfl)
section KROWS
variable {p : Program} {l : Launch} {e : Env} {R : Room} {s : State} {m : MethodId} {args : Array Value} {below : List Frame} {meth : Method} {c : Code} {H : Heap} {locs : List Loc} {cells slots : Nat} {Q : State → Prop}
variable {S : wS} {G : wG} {h : hp} {A : Nat → Prop} {cc : ByteArray} {nL : Nat} {rt : Option FieldType} {own : String} {Ts : List Cond} {pc : Nat} {ls : Array Slot} {rest : List Value} {o : Nat}
theorem k_getf (C : kC p s m args meth c cc nL rt own Ts) (hK : kK G s) (hW : kW S G h A s H locs) (ho : o < S.1) {ci : Nat} {fs : List Value} (hc : S.2 G.2.1 G.2.2 h o = .inr (ci, fs)) {Cn : String} {T : u_T} {N : Nat} (hcl : vwCl[ci]? = some (Cn, T, N)) (k : Nat) (hk : k < N) {idx : Nat} (hlink : Cond.fieldLink own idx (T k).1 (T k).2.1 (T k).2.2.1 ∈ Ts) (hin : ∀ w ∈ u_ws Cn T N, w ∈ Ts) {v : Value} (hv : fs[k]? = some v) (hdg : decode cc pc = .ok (.getfield idx, 3))
    (kk : W p l e R s m args below meth c H locs cells slots Q (F0 m (pc + 3) ls (v :: rest))) : W p l e R s m args below meth c H locs cells slots Q (F0 m pc ls (.ref (G.2.2 o) :: rest)) :=
  va_get C.1 C.2.1 C.2.2.2.2.2.1 hin C.2.2.2.2.1 hK.1 hW.1 o (lk_get ho hc) hcl k hk (C.2.2.2.2.2.1 _ hlink) (fun _ h9 => h9) hv hdg kk
theorem k_putf (C : kC p s m args meth c cc nL rt own Ts) (hK : kK G s) (hW : kW S G h A s H locs) (ho : o < S.1) {ci : Nat} {fs : List Value} (hc : S.2 G.2.1 G.2.2 h o = .inr (ci, fs)) {Cn : String} {T : u_T} {N : Nat} (ty0 : Nat → FieldType) (hty : ∀ k, k < N → parseFieldDescriptor (T k).2.2.1 = some (ty0 k)) (hnm : ∀ a, a < N → ∀ b, b < N → a ≠ b → (T a).2.1 ≠ (T b).2.1) (hcl : vwCl[ci]? = some (Cn, T, N)) (k : Nat) (hk : k < N) {idx : Nat} (hlink : Cond.fieldLink own idx (T k).1 (T k).2.1 (T k).2.2.1 ∈ Ts) (hin : ∀ w ∈ u_ws Cn T N, w ∈ Ts) (hfin : (T k).2.2.2 = false) {ty : FieldType} {v : Value} (hd : parseFieldDescriptor (T k).2.2.1 = some ty) (hn : narrow ty v = v) (hfit : fits ty v = true) (hl : k < fs.length) (hdg : decode cc pc = .ok (.putfield idx, 3))
    {h1 : hp} (hc1 : S.2 G.2.1 G.2.2 h1 o = .inr (ci, fs.set k v)) (hx : ∀ i, i ≠ o → S.2 G.2.1 G.2.2 h1 i = S.2 G.2.1 G.2.2 h i)
    (kk : ∀ (H1 : Heap) (locs1 : List Loc), kW S G h1 A s H1 locs1 → W p l e R s m args below meth c H1 locs1 cells slots Q (F0 m (pc + 3) ls rest)) : W p l e R s m args below meth c H locs cells slots Q (F0 m pc ls (v :: .ref (G.2.2 o) :: rest)) :=
  va_put C.1 C.2.1 C.2.2.2.2.2.1 hin ty0 hty hnm C.2.2.2.2.1 hK.1 hW.1 hW.2.1 hW.2.2 o (lk_get ho hc) hcl k hk (C.2.2.2.2.2.1 _ hlink) (fun _ h9 => h9) hfin hd hn hfit hl hdg (fun H1 locs1 a b d => kk H1 locs1 ⟨by rw [lk_set ho hc1 hx] at a; exact a, by rw [lk_set ho hc1 hx] at b; exact b, d⟩)
theorem k_iald (C : kC p s m args meth c cc nL rt own Ts) (hK : kK G s) (hW : kW S G h A s H locs) (ho : o < S.1) {n : Nat} (hc : S.2 G.2.1 G.2.2 h o = .inl (G.2.1 14, n, .inl (h.1 o))) {i : Int32} (hin : vp_in i n) (hdg : decode cc pc = .ok (.iaload, 1))
    (kk : W p l e R s m args below meth c H locs cells slots Q (F0 m (pc + 1) ls (.int (gI h o (ix i)) :: rest))) : W p l e R s m args below meth c H locs cells slots Q (F0 m pc ls (.int i :: .ref (G.2.2 o) :: rest)) :=
  va_iald C.1 C.2.1 hK.1 hW.1 o 1 (lk_get ho hc) rfl hin hdg kk
theorem k_bald (C : kC p s m args meth c cc nL rt own Ts) (hK : kK G s) (hW : kW S G h A s H locs) (ho : o < S.1) {n : Nat} (hc : S.2 G.2.1 G.2.2 h o = .inl (G.2.1 13, n, .inl (h.1 o))) {i : Int32} (hin : vp_in i n) (hdg : decode cc pc = .ok (.baload, 1))
    (kk : W p l e R s m args below meth c H locs cells slots Q (F0 m (pc + 1) ls (.int (gI h o (ix i)) :: rest))) : W p l e R s m args below meth c H locs cells slots Q (F0 m pc ls (.int i :: .ref (G.2.2 o) :: rest)) :=
  va_bald C.1 C.2.1 hK.1 hW.1 o 0 (lk_get ho hc) rfl hin hdg kk
theorem k_zald (C : kC p s m args meth c cc nL rt own Ts) (hK : kK G s) (hW : kW S G h A s H locs) (ho : o < S.1) {n : Nat} (hc : S.2 G.2.1 G.2.2 h o = .inl (G.2.1 16, n, .inl (h.1 o))) {i : Int32} (hin : vp_in i n) (hdg : decode cc pc = .ok (.baload, 1))
    (kk : W p l e R s m args below meth c H locs cells slots Q (F0 m (pc + 1) ls (.int (gI h o (ix i)) :: rest))) : W p l e R s m args below meth c H locs cells slots Q (F0 m pc ls (.int i :: .ref (G.2.2 o) :: rest)) :=
  va_zald C.1 C.2.1 hK.1 hW.1 o 3 (lk_get ho hc) rfl hin hdg kk
theorem k_lald (C : kC p s m args meth c cc nL rt own Ts) (hK : kK G s) (hW : kW S G h A s H locs) (ho : o < S.1) {n : Nat} (hc : S.2 G.2.1 G.2.2 h o = .inl (G.2.1 15, n, .inr (.inl (h.2.1 o)))) {i : Int32} (hin : vp_in i n) (hdg : decode cc pc = .ok (.laload, 1))
    (kk : W p l e R s m args below meth c H locs cells slots Q (F0 m (pc + 1) ls (.long (gL h o (ix i)) :: rest))) : W p l e R s m args below meth c H locs cells slots Q (F0 m pc ls (.int i :: .ref (G.2.2 o) :: rest)) :=
  va_lald C.1 C.2.1 hK.1 hW.1 o 2 (lk_get ho hc) rfl hin hdg kk
theorem k_aald (C : kC p s m args meth c cc nL rt own Ts) (hK : kK G s) (hW : kW S G h A s H locs) (ho : o < S.1) {t0 : Nat} {cA : ClassId} {ty : FieldType} (ht : (tysA G.2.1)[t0]? = some (cA, ty)) (hty : ty.isReference = true) {n : Nat} {f : Nat → Option Nat} (hc : S.2 G.2.1 G.2.2 h o = .inl (cA, n, .inr (.inr (.inr (.inr f))))) {i : Int32} (hin : vp_in i n) {x : Nat} (hx : f (ix i) = some (G.2.2 x)) (hdg : decode cc pc = .ok (.aaload, 1))
    (kk : W p l e R s m args below meth c H locs cells slots Q (F0 m (pc + 1) ls (.ref (G.2.2 x) :: rest))) : W p l e R s m args below meth c H locs cells slots Q (F0 m pc ls (.int i :: .ref (G.2.2 o) :: rest)) := by
  have hlt : i.toNatClampNeg < n := Nat.not_le.mp fun q => hin (Or.inr q)
  refine W.aald (v := va_rf (f i.toNatClampNeg)) (ty := ty) C.1 C.2.1 (hW.1 o _ (lk_get ho hc)) ((hK.1.2 t0 _ ht).1 n (fun j => va_rf (f j))) hty (fun q => by cases q) (by show ¬ (i < 0 ∨ (arrV _ _ _).slots.size ≤ _); rw [arrV_size]; exact hin) (by show (arrV _ _ _).slots[_]? = _; rw [arrV_read _ _ hlt]) rfl rfl hdg ?_
  rw [show f i.toNatClampNeg = some (G.2.2 x) from hx]
  exact kk
theorem k_alen (C : kC p s m args meth c cc nL rt own Ts) (hK : kK G s) (hW : kW S G h A s H locs) (ho : o < S.1) {t0 : Nat} {cA : ClassId} {ty : FieldType} (ht : (tysA G.2.1)[t0]? = some (cA, ty)) {x : vp_A} (hc : S.2 G.2.1 G.2.2 h o = .inl (cA, x)) {v : Int32} (hv : Int32.ofNat x.1 = v) (hdg : decode cc pc = .ok (.arraylength, 1))
    (kk : W p l e R s m args below meth c H locs cells slots Q (F0 m (pc + 1) ls (.int v :: rest))) : W p l e R s m args below meth c H locs cells slots Q (F0 m pc ls (.ref (G.2.2 o) :: rest)) :=
  va_alen C.1 C.2.1 hK.1 hW.1 o t0 (lk_get ho hc) ht hv hdg kk
theorem sI_upd (h : hp) (o k : Nat) (v : Int32) : (sI h o k v).1 o = upd (h.1 o) k v := by
  funext j
  simp [sI, upd]
theorem sL_upd (h : hp) (o k : Nat) (v : Int64) : (sL h o k v).2.1 o = vp_updL (h.2.1 o) k v := by
  funext j
  simp [sL, vp_updL]
theorem sI_off {h : hp} {o k i : Nat} {v : Int32} (hi : i ≠ o) : (sI h o k v).1 i = h.1 i := by
  funext j
  simp [sI, hi]
theorem sL_off {h : hp} {o k i : Nat} {v : Int64} (hi : i ≠ o) : (sL h o k v).2.1 i = h.2.1 i := by
  funext j
  simp [sL, hi]
/-- what a cell holds depends on its own part of the heap alone, and on the references that change -/
def sOk (S : wS) : Prop := ∀ (cy : Nat → ClassId) (ad : Nat → Nat) (h h1 : hp) (i : Nat), h1.1 i = h.1 i → h1.2.1 i = h.2.1 i → h1.2.2 = h.2.2 → S.2 cy ad h1 i = S.2 cy ad h i
theorem sOk_I {S : wS} (hS : sOk S) {G : wG} {h : hp} {o k : Nat} {v : Int32} : ∀ i, i ≠ o → S.2 G.2.1 G.2.2 (sI h o k v) i = S.2 G.2.1 G.2.2 h i := fun i hi => hS _ _ _ _ i (sI_off hi) rfl rfl
theorem sOk_L {S : wS} (hS : sOk S) {G : wG} {h : hp} {o k : Nat} {v : Int64} : ∀ i, i ≠ o → S.2 G.2.1 G.2.2 (sL h o k v) i = S.2 G.2.1 G.2.2 h i := fun i hi => hS _ _ _ _ i rfl (sL_off hi) rfl
theorem k_iast (hSk : sOk S) (C : kC p s m args meth c cc nL rt own Ts) (hK : kK G s) (hW : kW S G h A s H locs) (ho : o < S.1) {n : Nat} (hc : ∀ g : hp, S.2 G.2.1 G.2.2 g o = .inl (G.2.1 14, n, .inl (g.1 o))) {i x : Int32} (hin : vp_in i n) (hdg : decode cc pc = .ok (.iastore, 1))
    (kk : ∀ (H1 : Heap) (locs1 : List Loc), kW S G (sI h o (ix i) x) A s H1 locs1 → W p l e R s m args below meth c H1 locs1 cells slots Q (F0 m (pc + 1) ls rest)) : W p l e R s m args below meth c H locs cells slots Q (F0 m pc ls (.int x :: .int i :: .ref (G.2.2 o) :: rest)) := by
  have hc1 : S.2 G.2.1 G.2.2 (sI h o (ix i) x) o = .inl (G.2.1 14, n, .inl (upd (h.1 o) (ix i) x)) := by rw [hc, sI_upd]
  exact va_iast C.1 C.2.1 hK.1 hW.1 hW.2.1 hW.2.2 o 1 (lk_get ho (hc h)) rfl hin hdg (fun H1 locs1 a b d => kk H1 locs1 ⟨by rw [lk_set ho hc1 (sOk_I hSk)] at a; exact a, by rw [lk_set ho hc1 (sOk_I hSk)] at b; exact b, d⟩)
theorem k_bast (hSk : sOk S) (C : kC p s m args meth c cc nL rt own Ts) (hK : kK G s) (hW : kW S G h A s H locs) (ho : o < S.1) {n : Nat} (hc : ∀ g : hp, S.2 G.2.1 G.2.2 g o = .inl (G.2.1 13, n, .inl (g.1 o))) {i x : Int32} (hin : vp_in i n) (hdg : decode cc pc = .ok (.bastore, 1))
    (kk : ∀ (H1 : Heap) (locs1 : List Loc), kW S G (sI h o (ix i) (jb x)) A s H1 locs1 → W p l e R s m args below meth c H1 locs1 cells slots Q (F0 m (pc + 1) ls rest)) : W p l e R s m args below meth c H locs cells slots Q (F0 m pc ls (.int x :: .int i :: .ref (G.2.2 o) :: rest)) := by
  have hc1 : S.2 G.2.1 G.2.2 (sI h o (ix i) (jb x)) o = .inl (G.2.1 13, n, .inl (upd (h.1 o) (ix i) (jb x))) := by rw [hc, sI_upd]
  exact va_bast C.1 C.2.1 hK.1 hW.1 hW.2.1 hW.2.2 o 0 (lk_get ho (hc h)) rfl hin hdg (fun H1 locs1 a b d => kk H1 locs1 ⟨by rw [show vp_nar .byte x = jb x from rfl, lk_set ho hc1 (sOk_I hSk)] at a; exact a, by rw [show vp_nar .byte x = jb x from rfl, lk_set ho hc1 (sOk_I hSk)] at b; exact b, d⟩)
theorem k_zast (hSk : sOk S) (C : kC p s m args meth c cc nL rt own Ts) (hK : kK G s) (hW : kW S G h A s H locs) (ho : o < S.1) {n : Nat} (hc : ∀ g : hp, S.2 G.2.1 G.2.2 g o = .inl (G.2.1 16, n, .inl (g.1 o))) {i x : Int32} (hin : vp_in i n) (hdg : decode cc pc = .ok (.bastore, 1))
    (kk : ∀ (H1 : Heap) (locs1 : List Loc), kW S G (sI h o (ix i) (jz x)) A s H1 locs1 → W p l e R s m args below meth c H1 locs1 cells slots Q (F0 m (pc + 1) ls rest)) : W p l e R s m args below meth c H locs cells slots Q (F0 m pc ls (.int x :: .int i :: .ref (G.2.2 o) :: rest)) := by
  have hc1 : S.2 G.2.1 G.2.2 (sI h o (ix i) (jz x)) o = .inl (G.2.1 16, n, .inl (upd (h.1 o) (ix i) (jz x))) := by rw [hc, sI_upd]
  exact va_zast C.1 C.2.1 hK.1 hW.1 hW.2.1 hW.2.2 o 3 (lk_get ho (hc h)) rfl hin hdg (fun H1 locs1 a b d => kk H1 locs1 ⟨by rw [show vp_nar .boolean x = jz x from rfl, lk_set ho hc1 (sOk_I hSk)] at a; exact a, by rw [show vp_nar .boolean x = jz x from rfl, lk_set ho hc1 (sOk_I hSk)] at b; exact b, d⟩)
theorem k_last (hSk : sOk S) (C : kC p s m args meth c cc nL rt own Ts) (hK : kK G s) (hW : kW S G h A s H locs) (ho : o < S.1) {n : Nat} (hc : ∀ g : hp, S.2 G.2.1 G.2.2 g o = .inl (G.2.1 15, n, .inr (.inl (g.2.1 o)))) {i : Int32} {x : Int64} (hin : vp_in i n) (hdg : decode cc pc = .ok (.lastore, 1))
    (kk : ∀ (H1 : Heap) (locs1 : List Loc), kW S G (sL h o (ix i) x) A s H1 locs1 → W p l e R s m args below meth c H1 locs1 cells slots Q (F0 m (pc + 1) ls rest)) : W p l e R s m args below meth c H locs cells slots Q (F0 m pc ls (.long x :: .int i :: .ref (G.2.2 o) :: rest)) := by
  have hc1 : S.2 G.2.1 G.2.2 (sL h o (ix i) x) o = .inl (G.2.1 15, n, .inr (.inl (vp_updL (h.2.1 o) (ix i) x))) := by rw [hc, sL_upd]
  exact va_last C.1 C.2.1 hK.1 hW.1 hW.2.1 hW.2.2 o 2 (lk_get ho (hc h)) rfl hin hdg (fun H1 locs1 a b d => kk H1 locs1 ⟨by rw [lk_set ho hc1 (sOk_L hSk)] at a; exact a, by rw [lk_set ho hc1 (sOk_L hSk)] at b; exact b, d⟩)
theorem k_copyi (hSk : sOk S) (C : kC p s m args meth c cc nL rt own Ts) (hls : ls.size = nL) (hK : kK G s) (hW : kW S G h A s H locs) {o0 : Nat} (ho0 : o0 < S.1) (ho : o < S.1) {n0 n1 : Nat} (hc0 : S.2 G.2.1 G.2.2 h o0 = .inl (G.2.1 14, n0, .inl (h.1 o0))) (hc : ∀ g : hp, S.2 G.2.1 G.2.2 g o = .inl (G.2.1 14, n1, .inl (g.1 o))) {idx : Nat} (hlink : Cond.methodLink own idx arraycopyName ∈ Ts) (hnat : Cond.native arraycopyName ∈ Ts) (hstat : Cond.static arraycopyName ∈ Ts) (hini : Cond.initialized "java/lang/System" ∈ Ts)
    {sp dp n : Int32} (h1 : ¬ sp < 0) (h2 : ¬ dp < 0) (h3 : ¬ n < 0) (h4 : ix sp + ix n ≤ n0) (h5 : ix dp + ix n ≤ n1) (hframes : 1 ≤ R.frames) (hlocals : (rest.map fun v => v.category).sum + (nativeFrameWords "java/lang/System" "arraycopy" 5 + 11) ≤ R.locals) (hdg : decode cc pc = .ok (.invokestatic idx, 3))
    (kk : ∀ (H1 : Heap) (locs1 : List Loc), kW S G (cI h o0 (ix sp) o (ix dp) (ix n)) A s H1 locs1 → W p l e R s m args below meth c H1 locs1 cells slots Q (F0 m (pc + 3) ls rest)) : W p l e R s m args below meth c H locs cells slots Q (F0 m pc ls (.int n :: .int dp :: .ref (G.2.2 o) :: .int sp :: .ref (G.2.2 o0) :: rest)) := by
  have hc1 : S.2 G.2.1 G.2.2 (cI h o0 (ix sp) o (ix dp) (ix n)) o = .inl (G.2.1 14, n1, .inl (va_cpy (h.1 o0) (h.1 o) (ix sp) (ix dp) (ix n))) := by rw [hc]; simp [cI]
  have hx : ∀ i, i ≠ o → S.2 G.2.1 G.2.2 (cI h o0 (ix sp) o (ix dp) (ix n)) i = S.2 G.2.1 G.2.2 h i := fun i hi => hSk _ _ _ _ i (by simp [cI, hi]) rfl rfl
  exact va_copyi C.1 C.2.1 (C.2.2.2.1.trans hls.symm) C.2.2.2.2.1 (C.2.2.2.2.2.1 _ hlink) (C.2.2.2.2.2.1 _ hnat) (C.2.2.2.2.2.1 _ hstat) (C.2.2.2.2.2.1 _ hini) hK.1 hW.1 hW.2.1 hW.2.2 o0 o 1 1 (lk_get ho0 hc0) (lk_get ho (hc h)) rfl rfl rfl h1 h2 h3 h4 h5 (fun _ _ => rfl) hframes hlocals hdg (fun H1 locs1 a b d => kk H1 locs1 ⟨by rw [lk_set ho hc1 hx] at a; exact a, by rw [lk_set ho hc1 hx] at b; exact b, d⟩)
theorem k_copyl (hSk : sOk S) (C : kC p s m args meth c cc nL rt own Ts) (hls : ls.size = nL) (hK : kK G s) (hW : kW S G h A s H locs) {o0 : Nat} (ho0 : o0 < S.1) (ho : o < S.1) {n0 n1 : Nat} (hc0 : S.2 G.2.1 G.2.2 h o0 = .inl (G.2.1 15, n0, .inr (.inl (h.2.1 o0)))) (hc : ∀ g : hp, S.2 G.2.1 G.2.2 g o = .inl (G.2.1 15, n1, .inr (.inl (g.2.1 o)))) {idx : Nat} (hlink : Cond.methodLink own idx arraycopyName ∈ Ts) (hnat : Cond.native arraycopyName ∈ Ts) (hstat : Cond.static arraycopyName ∈ Ts) (hini : Cond.initialized "java/lang/System" ∈ Ts)
    {sp dp n : Int32} (h1 : ¬ sp < 0) (h2 : ¬ dp < 0) (h3 : ¬ n < 0) (h4 : ix sp + ix n ≤ n0) (h5 : ix dp + ix n ≤ n1) (hframes : 1 ≤ R.frames) (hlocals : (rest.map fun v => v.category).sum + (nativeFrameWords "java/lang/System" "arraycopy" 5 + 11) ≤ R.locals) (hdg : decode cc pc = .ok (.invokestatic idx, 3))
    (kk : ∀ (H1 : Heap) (locs1 : List Loc), kW S G (cL h o0 (ix sp) o (ix dp) (ix n)) A s H1 locs1 → W p l e R s m args below meth c H1 locs1 cells slots Q (F0 m (pc + 3) ls rest)) : W p l e R s m args below meth c H locs cells slots Q (F0 m pc ls (.int n :: .int dp :: .ref (G.2.2 o) :: .int sp :: .ref (G.2.2 o0) :: rest)) := by
  have hc1 : S.2 G.2.1 G.2.2 (cL h o0 (ix sp) o (ix dp) (ix n)) o = .inl (G.2.1 15, n1, .inr (.inl (va_cpy (h.2.1 o0) (h.2.1 o) (ix sp) (ix dp) (ix n)))) := by rw [hc]; simp [cL]
  have hx : ∀ i, i ≠ o → S.2 G.2.1 G.2.2 (cL h o0 (ix sp) o (ix dp) (ix n)) i = S.2 G.2.1 G.2.2 h i := fun i hi => hSk _ _ _ _ i rfl (by simp [cL, hi]) rfl
  exact va_copyl C.1 C.2.1 (C.2.2.2.1.trans hls.symm) C.2.2.2.2.1 (C.2.2.2.2.2.1 _ hlink) (C.2.2.2.2.2.1 _ hnat) (C.2.2.2.2.2.1 _ hstat) (C.2.2.2.2.2.1 _ hini) hK.1 hW.1 hW.2.1 hW.2.2 o0 o 2 2 (lk_get ho0 hc0) (lk_get ho (hc h)) rfl rfl rfl h1 h2 h3 h4 h5 (fun _ _ => rfl) hframes hlocals hdg (fun H1 locs1 a b d => kk H1 locs1 ⟨by rw [lk_set ho hc1 hx] at a; exact a, by rw [lk_set ho hc1 hx] at b; exact b, d⟩)
-- calls: the run, then what it answers
theorem k_fix (C : kC p s m args meth c cc nL rt own Ts) : CallFix p m c cc nL s args Ts own := ⟨C.1, C.2.1, C.2.2.2.1, C.2.2.2.2.1, C.2.2.2.2.2.1⟩
theorem k_preV (hK : kK G s) (hW : kW S G h A s H locs) (ho : o < S.1) {ci : Nat} {fs : List Value} (hc : S.2 G.2.1 G.2.2 h o = .inr (ci, fs)) {q : vw_C} (hcl : vwCl[ci]? = some q) {As : List Value} : PreV s H q.1 (G.2.2 o) (va_Pc (.ref (G.2.2 o) :: As) (kPre S G h)) As :=
  ⟨kPre_blind, va_recv hK.1 hW.1 hcl (lk_get ho hc), fun U hU hwm => ⟨rfl, kW_pre hK hW hU hwm⟩⟩
theorem k_preS (hK : kK G s) (hW : kW S G h A s H locs) {As : List Value} : PreS s H (va_Pc As (kPre S G h)) As := ⟨kPre_blind, fun U hU hwm => ⟨rfl, kW_pre hK hW hU hwm⟩⟩
theorem k_back {h1 : hp} (hW : kW S G h A s H locs) {H1 : Heap} {locs1 : List Loc} {t : State} (ht : t.heap = H1) (hB : kB S G h1 t) (hS : va_S A s.heap H1 locs1) : kW S G h1 A s H1 locs1 := ⟨by rw [← ht]; exact hB, lk_D hW.2.1, hS⟩
variable {st0 : List Value} {a : Array Value}
theorem k_ci {Qr : Int32 → hp → Prop} (hW : kW S G h A s H locs) (hr : va_Run p l e R s m args below meth c H locs cells slots 0 0 (F0 m pc ls st0) rest (va_Qi Qr (kB S G) (aS S G) a) (aS S G))
    (kk : ∀ (r : Int32) (h1 : hp) (H1 : Heap) (locs1 : List Loc), Qr r h1 → kW S G h1 A s H1 locs1 → W p l e R s m args below meth c H1 locs1 cells slots Q (F0 m (pc + 3) ls (.int r :: rest))) : W p l e R s m args below meth c H locs cells slots Q (F0 m pc ls st0) :=
  va_calli hr hW.2.2 (fun q _ hq => kW_aS hW q hq) (kW_aS hW) (fun r u t H1 locs1 ht _ hq hB _ _ hS => kk r u H1 locs1 hq (k_back hW ht hB hS))
theorem k_cl {Qr : Int64 → hp → Prop} (hW : kW S G h A s H locs) (hr : va_Run p l e R s m args below meth c H locs cells slots 0 0 (F0 m pc ls st0) rest (va_Ql Qr (kB S G) (aS S G) a) (aS S G))
    (kk : ∀ (r : Int64) (h1 : hp) (H1 : Heap) (locs1 : List Loc), Qr r h1 → kW S G h1 A s H1 locs1 → W p l e R s m args below meth c H1 locs1 cells slots Q (F0 m (pc + 3) ls (.long r :: rest))) : W p l e R s m args below meth c H locs cells slots Q (F0 m pc ls st0) :=
  va_calll hr hW.2.2 (fun q _ hq => kW_aS hW q hq) (kW_aS hW) (fun r u t H1 locs1 ht _ hq hB _ _ hS => kk r u H1 locs1 hq (k_back hW ht hB hS))
theorem k_cv {Qr : hp → Prop} (hW : kW S G h A s H locs) (hr : va_Run p l e R s m args below meth c H locs cells slots 0 0 (F0 m pc ls st0) rest (va_Qv Qr (kB S G) (aS S G) a) (aS S G))
    (kk : ∀ (h1 : hp) (H1 : Heap) (locs1 : List Loc), Qr h1 → kW S G h1 A s H1 locs1 → W p l e R s m args below meth c H1 locs1 cells slots Q (F0 m (pc + 3) ls rest)) : W p l e R s m args below meth c H locs cells slots Q (F0 m pc ls st0) :=
  va_callv hr hW.2.2 (fun q _ hq => kW_aS hW q hq) (kW_aS hW) (fun u t H1 locs1 ht _ hq hB _ _ hS => kk u H1 locs1 hq (k_back hW ht hB hS))
theorem k_cr {Qr : Nat → hp → Prop} (hW : kW S G h A s H locs) (hr : va_Run p l e R s m args below meth c H locs cells slots 0 0 (F0 m pc ls st0) rest (va_Qr (fun u : Nat × hp => Qr u.1 u.2) (fun u a t => a = G.2.2 u.1 ∧ kB S G u.2 t) (aS S G) a) (aS S G))
    (kk : ∀ (r : Nat) (h1 : hp) (H1 : Heap) (locs1 : List Loc), Qr r h1 → kW S G h1 A s H1 locs1 → W p l e R s m args below meth c H1 locs1 cells slots Q (F0 m (pc + 3) ls (.ref (G.2.2 r) :: rest))) : W p l e R s m args below meth c H locs cells slots Q (F0 m pc ls st0) :=
  va_callr hr hW.2.2 (fun q _ hq => kW_aS hW q hq) (kW_aS hW) (fun u ra t H1 locs1 ht _ hq hB _ _ hS => by
    obtain ⟨rfl, hB⟩ := hB
    exact kk u.1 u.2 H1 locs1 hq (k_back hW ht hB hS))
-- ends
theorem k_iret {Qr : Int32 → hp → Prop} {v : Int32} {free : Addr → Prop} (hfr : free = aS S G) (C : kC p s m args meth c cc nL (some .int) own Ts) (hW : kW S G h (aS S G) s H locs) (hdg : decode cc pc = .ok (.ireturn, 1)) (hq : Qr v h) : W p l e R s m args below meth c H locs 0 0 (MQ below (va_Qi Qr (kB S G) (aS S G)) args s 0 0 free) (F0 m pc ls [.int v]) := by
  subst hfr
  exact W.iret (v := v) C.1 C.2.1 C.2.2.1 (fun t ht hwm => ⟨⟨v, h, rfl, hq, by rw [kB, ht]; exact hW.1⟩, hW.2.2.F ht⟩) hW.2.2.2.2 hdg (hlocks := C.2.2.2.2.2.2)
theorem k_zret {Qr : Int32 → hp → Prop} {v : Int32} {ty : FieldType} {free : Addr → Prop} (hfr : free = aS S G) (hn : narrow ty (.int v) = .int v) (C : kC p s m args meth c cc nL (some ty) own Ts) (hW : kW S G h (aS S G) s H locs) (hdg : decode cc pc = .ok (.ireturn, 1)) (hq : Qr v h) : W p l e R s m args below meth c H locs 0 0 (MQ below (va_Qi Qr (kB S G) (aS S G)) args s 0 0 free) (F0 m pc ls [.int v]) := by
  subst hfr
  exact W.zret (v := v) C.1 C.2.1 C.2.2.1 hn (fun t ht hwm => ⟨⟨v, h, rfl, hq, by rw [kB, ht]; exact hW.1⟩, hW.2.2.F ht⟩) hW.2.2.2.2 hdg (hlocks := C.2.2.2.2.2.2)
theorem k_lret {Qr : Int64 → hp → Prop} {v : Int64} {free : Addr → Prop} (hfr : free = aS S G) (C : kC p s m args meth c cc nL (some .long) own Ts) (hW : kW S G h (aS S G) s H locs) (hdg : decode cc pc = .ok (.lreturn, 1)) (hq : Qr v h) : W p l e R s m args below meth c H locs 0 0 (MQ below (va_Ql Qr (kB S G) (aS S G)) args s 0 0 free) (F0 m pc ls [.long v]) := by
  subst hfr
  exact W.lret (v := v) C.1 C.2.1 C.2.2.1 (fun t ht hwm => ⟨⟨v, h, rfl, hq, by rw [kB, ht]; exact hW.1⟩, hW.2.2.F ht⟩) hW.2.2.2.2 hdg (hlocks := C.2.2.2.2.2.2)
theorem k_vret {Qr : hp → Prop} {free : Addr → Prop} (hfr : free = aS S G) (C : kC p s m args meth c cc nL none own Ts) (hW : kW S G h (aS S G) s H locs) (hdg : decode cc pc = .ok (.return_, 1)) (hq : Qr h) : W p l e R s m args below meth c H locs 0 0 (MQ below (va_Qv Qr (kB S G) (aS S G)) args s 0 0 free) (F0 m pc ls []) := by
  subst hfr
  exact W.vret C.1 C.2.1 C.2.2.1 (fun t ht hwm => ⟨⟨h, rfl, hq, by rw [kB, ht]; exact hW.1⟩, hW.2.2.F ht⟩) hW.2.2.2.2 hdg (hlocks := C.2.2.2.2.2.2)
theorem k_aret {Qr : Nat → hp → Prop} {v : Nat} {cn : String} {free : Addr → Prop} (hfr : free = aS S G) (C : kC p s m args meth c cc nL (some (.object cn)) own Ts) (hW : kW S G h (aS S G) s H locs) (hdg : decode cc pc = .ok (.areturn, 1)) (hq : Qr v h) : W p l e R s m args below meth c H locs 0 0 (MQ below (va_Qr (fun u : Nat × hp => Qr u.1 u.2) (fun u a t => a = G.2.2 u.1 ∧ kB S G u.2 t) (aS S G)) args s 0 0 free) (F0 m pc ls [.ref (G.2.2 v)]) := by
  subst hfr
  exact W.aret (v := .ref (G.2.2 v)) C.1 C.2.1 C.2.2.1 (Or.inl ⟨cn, rfl⟩) (Or.inr ⟨_, rfl⟩) (fun t ht hwm => ⟨⟨(v, h), G.2.2 v, rfl, hq, rfl, by rw [kB, ht]; exact hW.1⟩, hW.2.2.F ht⟩) hW.2.2.2.2 hdg (hlocks := C.2.2.2.2.2.2)
theorem k_top {x k : Int32} (e9 : x = k) (kk : W p l e R s m args below meth c H locs cells slots Q (F0 m pc ls (.int k :: rest))) : W p l e R s m args below meth c H locs cells slots Q (F0 m pc ls (.int x :: rest)) := by
  rw [e9]
  exact kk
theorem k_irem (hx : p.tables.exec = Jvm.exec) (hb : c.code = cc) {x y : Int32} (hdg : decode cc pc = .ok (.irem, 1)) (hne : ¬ y = 0) (k : W p l e R s m args below meth c H locs cells slots Q (F0 m (pc + 1) ls (.int (jrem x y) :: rest))) : W p l e R s m args below meth c H locs cells slots Q (F0 m pc ls (.int y :: .int x :: rest)) := lv_irem hx hb hdg hne k
theorem k_lrem (hx : p.tables.exec = Jvm.exec) (hb : c.code = cc) {x y : Int64} (hdg : decode cc pc = .ok (.lrem, 1)) (hne : ¬ y = 0) (k : W p l e R s m args below meth c H locs cells slots Q (F0 m (pc + 1) ls (.long (lrem x y) :: rest))) : W p l e R s m args below meth c H locs cells slots Q (F0 m pc ls (.long y :: .long x :: rest)) := lv_lrem hx hb hdg hne k
theorem k_ishl (hx : p.tables.exec = Jvm.exec) (hb : c.code = cc) {x y : Int32} (hdg : decode cc pc = .ok (.ishl, 1)) (k : W p l e R s m args below meth c H locs cells slots Q (F0 m (pc + 1) ls (.int (jshl x y) :: rest))) : W p l e R s m args below meth c H locs cells slots Q (F0 m pc ls (.int y :: .int x :: rest)) := lv_ishl hx hb hdg k
theorem k_ishr (hx : p.tables.exec = Jvm.exec) (hb : c.code = cc) {x y : Int32} (hdg : decode cc pc = .ok (.ishr, 1)) (k : W p l e R s m args below meth c H locs cells slots Q (F0 m (pc + 1) ls (.int (jshr x y) :: rest))) : W p l e R s m args below meth c H locs cells slots Q (F0 m pc ls (.int y :: .int x :: rest)) := lv_ishr hx hb hdg k
theorem k_lshl (hx : p.tables.exec = Jvm.exec) (hb : c.code = cc) {x : Int64} {y : Int32} (hdg : decode cc pc = .ok (.lshl, 1)) (k : W p l e R s m args below meth c H locs cells slots Q (F0 m (pc + 1) ls (.long (lshl x y) :: rest))) : W p l e R s m args below meth c H locs cells slots Q (F0 m pc ls (.int y :: .long x :: rest)) := lv_lshl hx hb hdg rfl k
end KROWS
/-- a method's start -/
theorem k_start {l : Launch} {S : wS} {G : wG} {y : MethodName} {ws ws' : List Cond} {rm : Room} {h : hp} {As : List Value} {Qc : Array Value → State → Outcome → State → Prop} {cc : ByteArray} {maxL : Nat} {rt : Option FieldType} {own : String}
    (hy : plainName y.cls = true) (hw : ws = Cond.code y cc maxL rt :: ws') (hown : y.cls = own) (hlen : (lg_sl As).length ≤ maxL)
    (body : ∀ (p : Program) (e : Env) (s : State) (m : MethodId) (below : List Frame) (meth : Method) (c : Code) (ls : Array Slot), kC p s m As.toArray meth c cc maxL rt own ws → kK G s → kW S G h (aS S G) s s.heap [] → lv_has ls maxL (lv_args 0 As) →
      W p l e rm s m As.toArray below meth c s.heap [] 0 0 (MQ below Qc As.toArray s 0 0 (aS S G)) (F0 m 0 ls [])) : Met l y ws rm (va_Pc As (kPre S G h)) Qc 0 0 (aS S G) := by
  refine Met.ofW (cc := cc) (maxL := maxL) (ret := rt) hy hw ?_
  intro p e s m args below meth c s₁ B hml hv
  obtain ⟨rfl, hP, hK, hD0⟩ := hv
  have hC : kC p s m As.toArray meth c cc maxL rt own ws := ⟨B.exec, B.bytes, B.returns, hml, by rw [← hown]; exact findClass_of_methodNamed B.named, atoms_spec (ws := ws) B.pre, B.notSynchronized⟩
  have hD : va_D (aS S G) (lk S G h) := hD0.weaken (fun k q hk _ => by obtain ⟨h1, rfl⟩ := lk_at hk; exact ⟨k, h1, rfl⟩)
  rw [lg_entry_eq]
  exact body p e s m below meth c _ hC hK ⟨hP, hD, va_S.rf⟩ (lv_entry As hlen)
/-- the same, of a class that has entries, where this method has none -/
theorem k_startF {l : Launch} {S : wS} {G : wG} {y : MethodName} {ws ws' : List Cond} {rm : Room} {h : hp} {As : List Value} {Qc : Array Value → State → Outcome → State → Prop} {cc : ByteArray} {maxL : Nat} {rt : Option FieldType} {own : String}
    (hy : plainFor y = true) (hw : ws = Cond.code y cc maxL rt :: ws') (hown : y.cls = own) (hlen : (lg_sl As).length ≤ maxL)
    (body : ∀ (p : Program) (e : Env) (s : State) (m : MethodId) (below : List Frame) (meth : Method) (c : Code) (ls : Array Slot), kC p s m As.toArray meth c cc maxL rt own ws → kK G s → kW S G h (aS S G) s s.heap [] → lv_has ls maxL (lv_args 0 As) →
      W p l e rm s m As.toArray below meth c s.heap [] 0 0 (MQ below Qc As.toArray s 0 0 (aS S G)) (F0 m 0 ls [])) : Met l y ws rm (va_Pc As (kPre S G h)) Qc 0 0 (aS S G) := by
  refine va_MetF (cc := cc) (maxL := maxL) (ret := rt) hy hw ?_
  intro p e s m args below meth c s₁ B hml hv
  obtain ⟨rfl, hP, hK, hD0⟩ := hv
  have hC : kC p s m As.toArray meth c cc maxL rt own ws := ⟨B.exec, B.bytes, B.returns, hml, by rw [← hown]; exact findClass_of_methodNamed B.named, atoms_spec (ws := ws) B.pre, B.notSynchronized⟩
  have hD : va_D (aS S G) (lk S G h) := hD0.weaken (fun k q hk _ => by obtain ⟨h1, rfl⟩ := lk_at hk; exact ⟨k, h1, rfl⟩)
  rw [lg_entry_eq]
  exact body p e s m below meth c _ hC hK ⟨hP, hD, va_S.rf⟩ (lv_entry As hlen)
