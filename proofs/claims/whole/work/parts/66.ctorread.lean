/-! the words' texts: String constants of the class Tokens -/
def strLen : List Nat := [3, 4, 3, 5, 5, 3, 5, 4, 2, 4, 4, 5, 5, 4, 4, 4, 4]
def strByt : List (List Int32) := [[114, 111, 119], [108, 105, 115, 116], [97, 115, 107], [112, 114, 105, 109, 101], [115, 104, 97, 114, 101], [98, 97, 103], [98, 111, 117, 110, 100], [108, 105, 97, 114], [105, 102], [116, 104, 101, 110], [101, 108, 115, 101], [112, 108, 97, 99, 101], [97, 104, 101, 97, 100], [109, 97, 110, 121], [116, 117, 114, 110], [116, 111, 108, 100], [115, 97, 105, 100]]
def strTx : List String := ["row", "list", "ask", "prime", "share", "bag", "bound", "liar", "if", "then", "else", "place", "ahead", "many", "turn", "told", "said"]
def strIdx : List Nat := [45, 47, 49, 51, 53, 55, 57, 59, 61, 63, 65, 67, 69, 71, 72, 74, 76]
/-- the words as numbers -/
def wTok (i : Nat) : Int64 := ([13550, 243290, 1253, 8864267, 10256063, 1492, 1373818, 242802, 249, 399641, 107681, 8740067, 692581, 257011, 409469, 404923, 374953] : List Int64).getD i 0
def kStr (lo : Nat) (adK adV : Nat → Nat) (U : State) (H : Heap) : Prop := vk_S 17 strLen strByt adK adV (fun q => lo ≤ q) U H ∧ (∀ i, i < 17 → vk_R "TwoAsks$Tokens" (strIdx.getD i 0) (strTx.getD i "") (adK i) U) ∧ va_Z "java/lang/String" "COMPACT_STRINGS" "Z" (.int 1) (fun q => lo ≤ q) U H ∧ va_Zq "jdk/internal/util/Preconditions" "SIOOBE_FORMATTER" "Ljava/util/function/BiFunction;" (fun q => lo ≤ q) U H
theorem kStr_kept {lo : Nat} {adK adV : Nat → Nat} {U : State} {H H1 : Heap} (h : kStr lo adK adV U H) (hq : ∀ a : Nat, a < H.size → ¬ lo ≤ a → H1[a]? = H[a]?) : kStr lo adK adV U H1 :=
  ⟨h.1.kept hq, h.2.1, h.2.2.1.kept hq, h.2.2.2.kept hq⟩
theorem kStr_warm {lo : Nat} {adK adV : Nat → Nat} {s U : State} {H : Heap} (hW : s.WarmedH U.vm) (h : kStr lo adK adV s H) : kStr lo adK adV U H :=
  ⟨h.1.moved hW.alike, fun i hi => (h.2.1 i hi).warm hW, h.2.2.1.moved hW.alike, h.2.2.2.moved hW.alike⟩
theorem kStr_same {lo : Nat} {adK adV : Nat → Nat} {s U : State} {H : Heap} (hW : s.vm = U.vm) (h : kStr lo adK adV s H) : kStr lo adK adV U H :=
  ⟨h.1.moved (by rw [hW]; exact Vm.Alike.refl U.vm), fun i hi => (h.2.1 i hi).same hW.symm, h.2.2.1.moved (by rw [hW]; exact Vm.Alike.refl U.vm), h.2.2.2.moved (by rw [hW]; exact Vm.Alike.refl U.vm)⟩
def kSt (lo : Nat) (adK adV : Nat → Nat) (q0 sz : Nat) (G : wG) (ws : va_W) (U : State) : Prop := U.heap.size = sz ∧ va_P G.1 vwCl ws U.heap ∧ kK G U ∧ va_D (fun _ => True) ws ∧ kStr lo adK adV U U.heap ∧ lo ≤ q0 ∧ lo ≤ sz
theorem i_blindS {G : wG} {As : List Value} {lo : Nat} {adK adV : Nat → Nat} {q0 sz : Nat} {ws : va_W} : FrameBlind (va_Pc As (kSt lo adK adV q0 sz G ws)) := fun a U g mk q => ⟨q.1, q.2.1, q.2.2.1, kK_same (s := U) (U := U.calling g mk a) rfl q.2.2.2.1, q.2.2.2.2.1, kStr_same (s := U) (U := U.calling g mk a) rfl q.2.2.2.2.2.1, q.2.2.2.2.2.2⟩
/-- a Text as it is made -/
def hText : hp := sI (sI (sI (sI (sI (sI (sI (sI (sI (sI (sI (sI (sI (sI (sI (sI (sI (sI (sI (sI (sI hText0 0 0 0) 4 2 0) 5 0 2) 6 0 3) 4 2 1) 5 1 1) 6 1 1) 4 2 2) 5 2 43) 6 2 0) 4 2 3) 5 3 4) 6 3 0) 4 2 4) 9 0 0) 9 1 97) 15 0 0) 16 0 0) 0 7 3) 0 8 3) 0 9 0
theorem hTextOk : w_X7_clear 0 hText0 (fun h => h = hText) := by
  unfold w_X7_clear w_X7_clear_0
  intro h1 e1
  subst e1
  unfold w_X2_clear w_X2_clear_0
  intro h2 e2
  subst e2
  (try unfold w_X2_add w_X2_add_0)
  refine ⟨fun _ => ⟨by unfold vp_in; decide, ?_⟩, fun c => absurd (by decide) c⟩
  intro ha0 ea0
  subst ea0
  refine ⟨by unfold vp_in; decide, ?_⟩
  intro hb0 eb0
  subst eb0
  intro hc0 ec0
  subst ec0
  (try unfold w_X2_add w_X2_add_0)
  refine ⟨fun _ => ⟨by unfold vp_in; decide, ?_⟩, fun c => absurd (by decide) c⟩
  intro ha1 ea1
  subst ea1
  refine ⟨by unfold vp_in; decide, ?_⟩
  intro hb1 eb1
  subst eb1
  intro hc1 ec1
  subst ec1
  (try unfold w_X2_add w_X2_add_0)
  refine ⟨fun _ => ⟨by unfold vp_in; decide, ?_⟩, fun c => absurd (by decide) c⟩
  intro ha2 ea2
  subst ea2
  refine ⟨by unfold vp_in; decide, ?_⟩
  intro hb2 eb2
  subst eb2
  intro hc2 ec2
  subst ec2
  (try unfold w_X2_add w_X2_add_0)
  refine ⟨fun _ => ⟨by unfold vp_in; decide, ?_⟩, fun c => absurd (by decide) c⟩
  intro ha3 ea3
  subst ea3
  refine ⟨by unfold vp_in; decide, ?_⟩
  intro hb3 eb3
  subst eb3
  intro hc3 ec3
  subst ec3
  unfold w_X6_clear w_X6_clear_0
  intro h3 e3
  subst e3
  intro h4 e4
  subst e4
  unfold w_X0_clear w_X0_clear_0
  intro h5 e5
  subst e5
  refine ⟨by unfold vp_in; decide, ?_⟩
  intro h6 e6
  subst e6
  intro h7 e7
  subst e7
  intro h8 e8
  subst e8
  intro h9 e9
  subst e9
  rfl
abbrev ri_X8_init : Room := { frames := 5, cells := 4, slots := 1223, locals := 130 }
/-! the String constants read: contracts over them -/
def kPs (lo : Nat) (adK adV : Nat → Nat) (U : State) : Prop := kStr lo adK adV U U.heap
abbrev fN : Nat → Prop := fun _ => False
theorem kPs_blind {lo : Nat} {adK adV : Nat → Nat} {As : List Value} : FrameBlind (va_Pc As (kPs lo adK adV)) := fun a U g mk q => ⟨q.1, kStr_same (s := U) (U := U.calling g mk a) rfl q.2⟩
theorem sS_lo {lo : Nat} {H0 H : Heap} {locs : List Loc} (h : va_S fN H0 H locs) : va_S (fun q => lo ≤ q) H0 H locs := ⟨h.1, fun q h1 _ => h.2.1 q h1 id, fun z hz => (h.2.2 z hz).elim⟩
theorem kPs_U {lo : Nat} {adK adV : Nat → Nat} {A : Nat → Prop} {s U : State} {H : Heap} {locs : List Loc} (hStr : kStr lo adK adV s s.heap) (hS : va_S A s.heap H locs) (hAlo : ∀ q, A q → lo ≤ q) (hU : U.heap = H) (hWm : s.WarmedH U.vm) : kPs lo adK adV U := by
  unfold kPs
  rw [hU]
  exact kStr_warm hWm (kStr_kept hStr (fun a ha hn => hS.2.1 a ha (fun h => hn (hAlo a h))))
theorem s_start {l : Launch} {lo : Nat} {adK adV : Nat → Nat} {y : MethodName} {ws ws' : List Cond} {rm : Room} {As : List Value} {Qc : Array Value → State → Outcome → State → Prop} {cc : ByteArray} {maxL : Nat} {rt : Option FieldType} {own : String}
    (hy : plainFor y = true) (hw : ws = Cond.code y cc maxL rt :: ws') (hown : y.cls = own) (hlen : (lg_sl As).length ≤ maxL)
    (body : ∀ (p : Program) (e : Env) (s : State) (m : MethodId) (below : List Frame) (meth : Method) (c : Code) (ls : Array Slot), kC p s m As.toArray meth c cc maxL rt own ws → kStr lo adK adV s s.heap → va_S fN s.heap s.heap [] → lv_has ls maxL (lv_args 0 As) →
      W p l e rm s m As.toArray below meth c s.heap [] 0 0 (MQ below Qc As.toArray s 0 0 fN) (F0 m 0 ls [])) : Met l y ws rm (va_Pc As (kPs lo adK adV)) Qc 0 0 fN := by
  refine va_MetF (cc := cc) (maxL := maxL) (ret := rt) hy hw ?_
  intro p e s m args below meth c s₁ B hml hv
  obtain ⟨rfl, hStr⟩ := hv
  have hC : kC p s m As.toArray meth c cc maxL rt own ws := ⟨B.exec, B.bytes, B.returns, hml, by rw [← hown]; exact findClass_of_methodNamed B.named, atoms_spec (ws := ws) B.pre, B.notSynchronized⟩
  rw [lg_entry_eq]
  exact body p e s m below meth c _ hC hStr va_S.rf (lv_entry As hlen)
section TOK
variable {p : Program} {l : Launch} {e : Env} {R : Room} {s : State} {m : MethodId} {args : Array Value} {below : List Frame} {meth : Method} {c : Code} {H : Heap} {locs : List Loc} {lo : Nat} {adK adV : Nat → Nat} {A : Nat → Prop}
variable {cc : ByteArray} {pc nL : Nat} {ls : Array Slot} {rest : List Value} {own : String} {Ts : List Cond} {rt : Option FieldType} {cells slots : Nat} {Q : State → Prop} {st0 : List Value} {a : Array Value}
theorem s_preS (hStr : kStr lo adK adV s s.heap) (hS : va_S A s.heap H locs) (hAlo : ∀ q, A q → lo ≤ q) {As : List Value} : PreS s H (va_Pc As (kPs lo adK adV)) As := ⟨kPs_blind, fun U hU hwm => ⟨rfl, kPs_U hStr hS hAlo hU hwm⟩⟩
theorem s_preV (hStr : kStr lo adK adV s s.heap) (hS : va_S A s.heap H locs) (hAlo : ∀ q, A q → lo ≤ q) {i : Nat} (hi : i < 17) {As : List Value} : PreV s H "java/lang/String" (adK i) (va_Pc (.ref (adK i) :: As) (kPs lo adK adV)) As :=
  ⟨kPs_blind, vk_recv hStr.1 hi ⟨hS.1, fun q h1 h2 => hS.2.1 q h1 (fun h => h2 (hAlo q h)), fun z hz => hAlo _ (hS.2.2 z hz)⟩, fun U hU hwm => ⟨rfl, kPs_U hStr hS hAlo hU hwm⟩⟩
theorem s_zret {P : Int32 → Prop} {v : Int32} {ty : FieldType} (hn : narrow ty (.int v) = .int v) (C : kC p s m args meth c cc nL (some ty) own Ts) (hS : va_S fN s.heap H locs) (hdg : decode cc pc = .ok (.ireturn, 1)) (hq : P v) : W p l e R s m args below meth c H locs 0 0 (MQ below (va_Qi (fun r (_ : Unit) => P r) (fun _ _ => True) fN) args s 0 0 fN) (F0 m pc ls [.int v]) :=
  W.zret (v := v) C.1 C.2.1 C.2.2.1 hn (fun t ht hwm => ⟨⟨v, (), rfl, hq, trivial⟩, hS.F ht⟩) hS.2.2 hdg (hlocks := C.2.2.2.2.2.2)
theorem s_iret {P : Int32 → Prop} {v : Int32} (C : kC p s m args meth c cc nL (some .int) own Ts) (hS : va_S fN s.heap H locs) (hdg : decode cc pc = .ok (.ireturn, 1)) (hq : P v) : W p l e R s m args below meth c H locs 0 0 (MQ below (va_Qi (fun r (_ : Unit) => P r) (fun _ _ => True) fN) args s 0 0 fN) (F0 m pc ls [.int v]) :=
  W.iret (v := v) C.1 C.2.1 C.2.2.1 (fun t ht hwm => ⟨⟨v, (), rfl, hq, trivial⟩, hS.F ht⟩) hS.2.2 hdg (hlocks := C.2.2.2.2.2.2)
theorem s_lret {P : Int64 → Prop} {v : Int64} (C : kC p s m args meth c cc nL (some .long) own Ts) (hS : va_S fN s.heap H locs) (hdg : decode cc pc = .ok (.lreturn, 1)) (hq : P v) : W p l e R s m args below meth c H locs 0 0 (MQ below (va_Ql (fun r (_ : Unit) => P r) (fun _ _ => True) fN) args s 0 0 fN) (F0 m pc ls [.long v]) :=
  W.lret (v := v) C.1 C.2.1 C.2.2.1 (fun t ht hwm => ⟨⟨v, (), rfl, hq, trivial⟩, hS.F ht⟩) hS.2.2 hdg (hlocks := C.2.2.2.2.2.2)
theorem s_vret (C : kC p s m args meth c cc nL none own Ts) (hS : va_S fN s.heap H locs) (hdg : decode cc pc = .ok (.return_, 1)) : W p l e R s m args below meth c H locs 0 0 (MQ below (va_Qv (fun _ : Unit => True) (fun _ _ => True) fN) args s 0 0 fN) (F0 m pc ls []) :=
  W.vret C.1 C.2.1 C.2.2.1 (fun t ht hwm => ⟨⟨(), rfl, trivial, trivial⟩, hS.F ht⟩) hS.2.2 hdg (hlocks := C.2.2.2.2.2.2)
theorem s_aret {cn : String} {q : Nat} (C : kC p s m args meth c cc nL (some (.object cn)) own Ts) (hS : va_S fN s.heap H locs) (hdg : decode cc pc = .ok (.areturn, 1)) : W p l e R s m args below meth c H locs 0 0 (MQ below (va_Qr (fun _ : Unit => True) (fun _ a _ => a = q) fN) args s 0 0 fN) (F0 m pc ls [.ref q]) :=
  W.aret (v := .ref q) C.1 C.2.1 C.2.2.1 (Or.inl ⟨cn, rfl⟩) (Or.inr ⟨_, rfl⟩) (fun t ht hwm => ⟨⟨(), q, rfl, trivial, rfl⟩, hS.F ht⟩) hS.2.2 hdg (hlocks := C.2.2.2.2.2.2)
theorem s_ci {P : Int32 → Prop} (hS : va_S A s.heap H locs) (hr : va_Run p l e R s m args below meth c H locs cells slots 0 0 (F0 m pc ls st0) rest (va_Qi (fun r (_ : Unit) => P r) (fun _ _ => True) fN a) fN)
    (kk : ∀ (r : Int32) (H1 : Heap) (locs1 : List Loc), P r → (∀ q : Nat, q < H.size → H1[q]? = H[q]?) → va_S A s.heap H1 locs1 → W p l e R s m args below meth c H1 locs1 cells slots Q (F0 m (pc + 3) ls (.int r :: rest))) : W p l e R s m args below meth c H locs cells slots Q (F0 m pc ls st0) :=
  va_calli hr hS (fun q _ hq => hq.elim) (fun q hq => hq.elim) (fun r u t H1 locs1 ht _ hq hB _ hk hS => kk r H1 locs1 hq (fun q h => hk q h id) hS)
theorem s_cl {P : Int64 → Prop} (hS : va_S A s.heap H locs) (hr : va_Run p l e R s m args below meth c H locs cells slots 0 0 (F0 m pc ls st0) rest (va_Ql (fun r (_ : Unit) => P r) (fun _ _ => True) fN a) fN)
    (kk : ∀ (r : Int64) (H1 : Heap) (locs1 : List Loc), P r → (∀ q : Nat, q < H.size → H1[q]? = H[q]?) → va_S A s.heap H1 locs1 → W p l e R s m args below meth c H1 locs1 cells slots Q (F0 m (pc + 3) ls (.long r :: rest))) : W p l e R s m args below meth c H locs cells slots Q (F0 m pc ls st0) :=
  va_calll hr hS (fun q _ hq => hq.elim) (fun q hq => hq.elim) (fun r u t H1 locs1 ht _ hq hB _ hk hS => kk r H1 locs1 hq (fun q h => hk q h id) hS)
theorem s_cv (hS : va_S A s.heap H locs) (hr : va_Run p l e R s m args below meth c H locs cells slots 0 0 (F0 m pc ls st0) rest (va_Qv (fun _ : Unit => True) (fun _ _ => True) fN a) fN)
    (kk : ∀ (H1 : Heap) (locs1 : List Loc), (∀ q : Nat, q < H.size → H1[q]? = H[q]?) → va_S A s.heap H1 locs1 → W p l e R s m args below meth c H1 locs1 cells slots Q (F0 m (pc + 3) ls rest)) : W p l e R s m args below meth c H locs cells slots Q (F0 m pc ls st0) :=
  va_callv hr hS (fun q _ hq => hq.elim) (fun q hq => hq.elim) (fun u t H1 locs1 ht _ hq hB _ hk hS => kk H1 locs1 (fun q h => hk q h id) hS)
theorem s_cr {q0 : Nat} (hS : va_S A s.heap H locs) (hr : va_Run p l e R s m args below meth c H locs cells slots 0 0 (F0 m pc ls st0) rest (va_Qr (fun _ : Unit => True) (fun _ a _ => a = q0) fN a) fN)
    (kk : ∀ (H1 : Heap) (locs1 : List Loc), (∀ q : Nat, q < H.size → H1[q]? = H[q]?) → va_S A s.heap H1 locs1 → W p l e R s m args below meth c H1 locs1 cells slots Q (F0 m (pc + 3) ls (.ref q0 :: rest))) : W p l e R s m args below meth c H locs cells slots Q (F0 m pc ls st0) :=
  va_callr hr hS (fun q _ hq => hq.elim) (fun q hq => hq.elim) (fun u ra t H1 locs1 ht _ hq hB _ hk hS => by
    subst hB
    exact kk H1 locs1 (fun q h => hk q h id) hS)
end TOK
/-- the letter at k of word i -/
def tLet (i k : Nat) : Int32 := (strByt.getD i []).getD k 0
def tLen (i : Nat) : Nat := strLen.getD i 0
theorem tLet_ok : ∀ i, i < 17 → ∀ k, k < tLen i → (((tLet i k) &&& 255).toUInt32 % 65536).toInt32 = tLet i k ∧ narrow .char (.int (tLet i k)) = .int (tLet i k) := by decide +kernel
theorem tLen_ok : ∀ i, i < 17 → tLen i < 100 ∧ 0 < tLen i := by decide +kernel
def tPart (i : Nat) : Nat → Int64
  | 0 => 0
  | k + 1 => tPart i k * 27 + ((tLet i k - 97) + 1).toInt64
theorem tPart_ok : ∀ i, i < 17 → tPart i (tLen i) = wTok i := by decide +kernel
abbrev rsJ0_length : Room := { frames := 1, cells := 0, slots := 0, locals := 20 }
abbrev rs0 : Room := { frames := 0, cells := 0, slots := 0, locals := 0 }
abbrev rsJ0_check : Room := { frames := 1, cells := 0, slots := 0, locals := 22 }
abbrev rsJ1_charAt : Room := { frames := 2, cells := 0, slots := 0, locals := 43 }
abbrev rsJ0_charAt : Room := { frames := 3, cells := 0, slots := 0, locals := 64 }
theorem z_coder (l : Launch) (lo : Nat) (adK adV : Nat → Nat) {i : Nat} (hi : i < 17) : Met l yJ0_coder_7d493 wUJ0_coder_7d493 rs0 (va_Pc [.ref (adK i)] (kPs lo adK adV)) (va_Qi (fun r (_ : Unit) => r = 0) (fun _ _ => True) fN) 0 0 fN := by
  refine s_start (cc := cJ0_coder_7d493) (maxL := 1) (rt := some .byte) (own := RJ0) (by decide +kernel) rfl rfl (Nat.le_of_ble_eq_true rfl) ?_
  intro p e s m below meth c ls C hStr hS hl
  have hx := C.1
  have hb := C.2.1
  refine va_gets hx hb hStr.2.2.1 (sS_lo hS) C.2.2.2.2.1 (C.2.2.2.2.2.1 _ (List.mem_cons_of_mem _ mw148)) (fun _ h9 => h9) dJ0_coder_7d493_0 ?_
  refine lv_if_eq (tgt := 13) hx hb dJ0_coder_7d493_3 (by decide) (fun c9 => absurd c9 (by decide)) (fun _ => ?_)
  refine lv_aload_n hx hb dJ0_coder_7d493_6 rfl (lv_at hl 0 rfl) ?_
  refine vk_getf hx hb (hStr.1.1 i hi).2.1 (sS_lo hS) C.2.2.2.2.1 (C.2.2.2.2.2.1 _ (List.mem_cons_of_mem _ mw149)) (fun _ h9 => h9) dJ0_coder_7d493_7 ?_
  refine lv_goto (tgt := 14) hx hb dJ0_coder_7d493_10 (by decide) ?_
  exact s_zret rfl C hS dJ0_coder_7d493_14 rfl
theorem z_isLatin1 (l : Launch) (lo : Nat) (adK adV : Nat → Nat) {i : Nat} (hi : i < 17) : Met l yJ0_isLatin1_aae02 wUJ0_isLatin1_aae02 rs0 (va_Pc [.ref (adK i)] (kPs lo adK adV)) (va_Qi (fun r (_ : Unit) => r = 1) (fun _ _ => True) fN) 0 0 fN := by
  refine s_start (cc := cJ0_isLatin1_aae02) (maxL := 1) (rt := some .boolean) (own := RJ0) (by decide +kernel) rfl rfl (Nat.le_of_ble_eq_true rfl) ?_
  intro p e s m below meth c ls C hStr hS hl
  have hx := C.1
  have hb := C.2.1
  refine va_gets hx hb hStr.2.2.1 (sS_lo hS) C.2.2.2.2.1 (C.2.2.2.2.2.1 _ (List.mem_cons_of_mem _ mw148)) (fun _ h9 => h9) dJ0_isLatin1_aae02_0 ?_
  refine lv_if_eq (tgt := 17) hx hb dJ0_isLatin1_aae02_3 (by decide) (fun c9 => absurd c9 (by decide)) (fun _ => ?_)
  refine lv_aload_n hx hb dJ0_isLatin1_aae02_6 rfl (lv_at hl 0 rfl) ?_
  refine vk_getf hx hb (hStr.1.1 i hi).2.1 (sS_lo hS) C.2.2.2.2.1 (C.2.2.2.2.2.1 _ (List.mem_cons_of_mem _ mw149)) (fun _ h9 => h9) dJ0_isLatin1_aae02_7 ?_
  refine lv_if_ne (tgt := 17) hx hb dJ0_isLatin1_aae02_10 (by decide) (fun c9 => absurd rfl c9) (fun _ => ?_)
  refine lv_iconst (v := 1) hx hb dJ0_isLatin1_aae02_13 (by decide) ?_
  refine lv_goto (tgt := 18) hx hb dJ0_isLatin1_aae02_14 (by decide) ?_
  exact s_zret rfl C hS dJ0_isLatin1_aae02_18 rfl
theorem z_length (l : Launch) (lo : Nat) (adK adV : Nat → Nat) {i : Nat} (hi : i < 17) : Met l yJ0_length_8abf5 wUJ0_length_8abf5 rsJ0_length (va_Pc [.ref (adK i)] (kPs lo adK adV)) (va_Qi (fun r (_ : Unit) => r = Int32.ofNat (tLen i)) (fun _ _ => True) fN) 0 0 fN := by
  refine s_start (cc := cJ0_length_8abf5) (maxL := 1) (rt := some .int) (own := RJ0) (by decide +kernel) rfl rfl (Nat.le_of_ble_eq_true rfl) ?_
  intro p e s m below meth c ls C hStr hS hl
  have hx := C.1
  have hb := C.2.1
  refine lv_aload_n hx hb dJ0_length_8abf5_0 rfl (lv_at hl 0 rfl) ?_
  refine vk_getf hx hb (hStr.1.1 i hi).2.2.1 (sS_lo hS) C.2.2.2.2.1 (C.2.2.2.2.2.1 _ (List.mem_cons_of_mem _ mw143)) (fun _ h9 => h9) dJ0_length_8abf5_1 ?_
  refine va_tlen hx hb (hStr.1.1 i hi).2.2.2 (sS_lo hS) rfl dJ0_length_8abf5_4 ?_
  refine lv_aload_n hx hb dJ0_length_8abf5_5 rfl (lv_at hl 0 rfl) ?_
  refine s_ci hS (va_runV (As := []) (rest := [.int (Int32.ofNat (strLen.getD i 0))]) (k_fix C) (z_coder l lo adK adV hi) (cwV 0 C.2.2.2.2.2.1 (gU_V mw144 mw145 mw146 mw141 mw147) rfl rfl rfl (by decide +kernel) ⟨Nat.le_of_ble_eq_true rfl, Nat.le_of_ble_eq_true rfl⟩) (s_preV hStr hS (fun _ h => h.elim) hi) rfl rfl hl.1 rfl (lv_room (Nat.le_of_ble_eq_true rfl)) dJ0_length_8abf5_6 ⟨Nat.le_refl 0, Nat.le_refl 0⟩) (fun r H locs hr _ hS => ?_)
  subst hr
  refine lv_ishr hx hb dJ0_length_8abf5_9 ?_
  refine s_iret C hS dJ0_length_8abf5_10 ?_
  have h1 : ∀ i, i < 17 → Int32.ofNat (strLen.getD i 0) >>> ((0 : Int32) &&& 31) = Int32.ofNat (tLen i) := by decide +kernel
  exact h1 i hi
theorem z_check3 (l : Launch) (lo : Nat) (adK adV : Nat → Nat) {x0 x1 : Int32} {v : Value} (hv : v = .null ∨ ∃ t : Nat, v = .ref t) (h0 : ¬ x0 < 0) (h1 : x0 < x1) : Met l yJ3_checkIndex_8e157 wUJ3_checkIndex_8e157 rs0 (va_Pc [.int x0, .int x1, v] (kPs lo adK adV)) (va_Qi (fun r (_ : Unit) => r = x0) (fun _ _ => True) fN) 0 0 fN := by
  refine s_start (cc := cJ3_checkIndex_8e157) (maxL := 3) (rt := some .int) (own := RJ3) (by decide +kernel) rfl rfl (by rcases hv with rfl | ⟨t, rfl⟩ <;> exact Nat.le_of_ble_eq_true rfl) ?_
  intro p e s m below meth c ls C hStr hS hl
  have hx := C.1
  have hb := C.2.1
  have hl : lv_has ls 3 [(0, .int x0), (1, .int x1), (2, v)] := hl
  refine lv_iload_n hx hb dJ3_checkIndex_8e157_0 rfl (lv_at hl 0 rfl) ?_
  refine lv_if_lt (tgt := 9) hx hb dJ3_checkIndex_8e157_1 (by decide) (fun c9 => absurd c9 h0) (fun _ => ?_)
  refine lv_iload_n hx hb dJ3_checkIndex_8e157_4 rfl (lv_at hl 0 rfl) ?_
  refine lv_iload_n hx hb dJ3_checkIndex_8e157_5 rfl (lv_at hl 1 rfl) ?_
  refine lv_icmp_lt (tgt := 16) hx hb dJ3_checkIndex_8e157_6 (by decide) (fun _ => ?_) (fun c9 => absurd h1 c9)
  refine lv_iload_n hx hb dJ3_checkIndex_8e157_16 rfl (lv_at hl 0 rfl) ?_
  exact s_iret C hS dJ3_checkIndex_8e157_17 rfl
theorem z_check (l : Launch) (lo : Nat) (adK adV : Nat → Nat) {x0 x1 : Int32} (h0 : ¬ x0 < 0) (h1 : x0 < x1) : Met l yJ0_checkIndex_df160 wUJ0_checkIndex_df160 rsJ0_check (va_Pc [.int x0, .int x1] (kPs lo adK adV)) (va_Qv (fun _ : Unit => True) (fun _ _ => True) fN) 0 0 fN := by
  refine s_start (cc := cJ0_checkIndex_df160) (maxL := 2) (rt := none) (own := RJ0) (by decide +kernel) rfl rfl (Nat.le_of_ble_eq_true rfl) ?_
  intro p e s m below meth c ls C hStr hS hl
  have hx := C.1
  have hb := C.2.1
  obtain ⟨v, hv, hZ⟩ : ∃ v : Value, (v = .null ∨ ∃ t : Nat, v = .ref t) ∧ va_Z "jdk/internal/util/Preconditions" "SIOOBE_FORMATTER" "Ljava/util/function/BiFunction;" v (fun q => lo ≤ q) s s.heap := by
    rcases hStr.2.2.2 with h | ⟨t, h⟩
    · exact ⟨_, Or.inl rfl, h⟩
    · exact ⟨_, Or.inr ⟨t, rfl⟩, h⟩
  refine lv_iload_n hx hb dJ0_checkIndex_df160_0 rfl (lv_at hl 0 rfl) ?_
  refine lv_iload_n hx hb dJ0_checkIndex_df160_1 rfl (lv_at hl 1 rfl) ?_
  refine va_gets hx hb hZ (sS_lo hS) C.2.2.2.2.1 (C.2.2.2.2.2.1 _ (List.mem_cons_of_mem _ mw165)) (fun _ h9 => h9) dJ0_checkIndex_df160_2 ?_
  refine s_ci hS (va_runS (As := [.int x0, .int x1, v]) (rest := []) (k_fix C) (z_check3 l lo adK adV hv h0 h1) (va_cwS 3 C.2.2.2.2.2.1 (gU_S mw166 mw167 mw168 mw169) rfl rfl rfl (by decide +kernel) ⟨Nat.le_of_ble_eq_true rfl, Nat.le_of_ble_eq_true rfl⟩) (s_preS hStr hS (fun _ h => h.elim)) rfl rfl hl.1 rfl (lv_room (Nat.le_of_ble_eq_true rfl)) dJ0_checkIndex_df160_5 ⟨Nat.le_refl 0, Nat.le_refl 0⟩) (fun r H locs hr _ hS => ?_)
  refine lv_pop hx hb dJ0_checkIndex_df160_8 rfl ?_
  exact s_vret C hS dJ0_checkIndex_df160_9
theorem tIdx : ∀ i, i < 17 → ∀ k, k < tLen i → ¬ Int32.ofNat k < 0 ∧ Int32.ofNat k < Int32.ofNat (strLen.getD i 0) ∧ (Int32.ofNat k).toNatClampNeg = k ∧ Int32.ofNat k < Int32.ofNat (tLen i) ∧ Int32.ofNat k + 1 = Int32.ofNat (k + 1) ∧ vp_in (Int32.ofNat k) (strLen.getD i 0) := by
  unfold vp_in
  decide +kernel
theorem z_charAt1 (l : Launch) (lo : Nat) (adK adV : Nat → Nat) {i : Nat} (hi : i < 17) {k : Nat} (hk : k < tLen i) : Met l yJ1_charAt_3b067 wUJ1_charAt_3b067 rsJ1_charAt (va_Pc [.ref (adV i), .int (Int32.ofNat k)] (kPs lo adK adV)) (va_Qi (fun r (_ : Unit) => r = tLet i k) (fun _ _ => True) fN) 0 0 fN := by
  refine s_start (cc := cJ1_charAt_3b067) (maxL := 2) (rt := some .char) (own := RJ1) (by decide +kernel) rfl rfl (Nat.le_of_ble_eq_true rfl) ?_
  intro p e s m below meth c ls C hStr hS hl
  have hx := C.1
  have hb := C.2.1
  obtain ⟨hk0, hk1, hk2, -, -, hk3⟩ := tIdx i hi k hk
  refine lv_iload_n hx hb dJ1_charAt_3b067_0 rfl (lv_at hl 1 rfl) ?_
  refine lv_aload_n hx hb dJ1_charAt_3b067_1 rfl (lv_at hl 0 rfl) ?_
  refine va_tlen hx hb (hStr.1.1 i hi).2.2.2 (sS_lo hS) rfl dJ1_charAt_3b067_2 ?_
  refine s_cv hS (va_runS (As := [.int (Int32.ofNat k), .int (Int32.ofNat (strLen.getD i 0))]) (rest := []) (k_fix C) (z_check l lo adK adV hk0 hk1) (va_cwS 2 C.2.2.2.2.2.1 (gU_S mw162 mw163 mw141 mw164) rfl rfl rfl (by decide +kernel) ⟨Nat.le_of_ble_eq_true rfl, Nat.le_of_ble_eq_true rfl⟩) (s_preS hStr hS (fun _ h => h.elim)) rfl rfl hl.1 rfl (lv_room (Nat.le_of_ble_eq_true rfl)) dJ1_charAt_3b067_3 ⟨Nat.le_refl 0, Nat.le_refl 0⟩) (fun H locs _ hS => ?_)
  refine lv_aload_n hx hb dJ1_charAt_3b067_6 rfl (lv_at hl 0 rfl) ?_
  refine lv_iload_n hx hb dJ1_charAt_3b067_7 rfl (lv_at hl 1 rfl) ?_
  refine va_tb hx hb (hStr.1.1 i hi).2.2.2 (sS_lo hS) hk3 (v := .int (tLet i k)) (by rw [hk2]; rfl) dJ1_charAt_3b067_8 ?_
  refine lv_sipush (v := 255) hx hb dJ1_charAt_3b067_9 (by decide) ?_
  refine lv_iand hx hb dJ1_charAt_3b067_12 ?_
  refine lv_i2c hx hb dJ1_charAt_3b067_13 (tLet_ok i hi k hk).1 ?_
  exact s_zret (tLet_ok i hi k hk).2 C hS dJ1_charAt_3b067_14 rfl
theorem z_charAt (l : Launch) (lo : Nat) (adK adV : Nat → Nat) {i : Nat} (hi : i < 17) {k : Nat} (hk : k < tLen i) : Met l yJ0_charAt_5068e wUJ0_charAt_5068e rsJ0_charAt (va_Pc [.ref (adK i), .int (Int32.ofNat k)] (kPs lo adK adV)) (va_Qi (fun r (_ : Unit) => r = tLet i k) (fun _ _ => True) fN) 0 0 fN := by
  refine s_start (cc := cJ0_charAt_5068e) (maxL := 2) (rt := some .char) (own := RJ0) (by decide +kernel) rfl rfl (Nat.le_of_ble_eq_true rfl) ?_
  intro p e s m below meth c ls C hStr hS hl
  have hx := C.1
  have hb := C.2.1
  refine lv_aload_n hx hb dJ0_charAt_5068e_0 rfl (lv_at hl 0 rfl) ?_
  refine s_ci hS (va_runV (As := []) (rest := []) (k_fix C) (z_isLatin1 l lo adK adV hi) (cwV 0 C.2.2.2.2.2.1 (gU_V mw154 mw155 mw156 mw141 mw157) rfl rfl rfl (by decide +kernel) ⟨Nat.le_of_ble_eq_true rfl, Nat.le_of_ble_eq_true rfl⟩) (s_preV hStr hS (fun _ h => h.elim) hi) rfl rfl hl.1 rfl (lv_room (Nat.le_of_ble_eq_true rfl)) dJ0_charAt_5068e_1 ⟨Nat.le_refl 0, Nat.le_refl 0⟩) (fun r H locs hr _ hS => ?_)
  subst hr
  refine lv_if_eq (tgt := 16) hx hb dJ0_charAt_5068e_4 (by decide) (fun c9 => absurd c9 (by decide)) (fun _ => ?_)
  refine lv_aload_n hx hb dJ0_charAt_5068e_7 rfl (lv_at hl 0 rfl) ?_
  refine vk_getf hx hb (hStr.1.1 i hi).2.2.1 (sS_lo hS) C.2.2.2.2.1 (C.2.2.2.2.2.1 _ (List.mem_cons_of_mem _ mw143)) (fun _ h9 => h9) dJ0_charAt_5068e_8 ?_
  refine lv_iload_n hx hb dJ0_charAt_5068e_11 rfl (lv_at hl 1 rfl) ?_
  refine s_ci hS (va_runS (As := [.ref (adV i), .int (Int32.ofNat k)]) (rest := []) (k_fix C) (z_charAt1 l lo adK adV hi hk) (va_cwS 2 C.2.2.2.2.2.1 (gU_S mw158 mw159 mw160 mw161) rfl rfl rfl (by decide +kernel) ⟨Nat.le_of_ble_eq_true rfl, Nat.le_of_ble_eq_true rfl⟩) (s_preS hStr hS (fun _ h => h.elim)) rfl rfl hl.1 rfl (lv_room (Nat.le_of_ble_eq_true rfl)) dJ0_charAt_5068e_12 ⟨Nat.le_refl 0, Nat.le_refl 0⟩) (fun r H locs hr _ hS => ?_)
  subst hr
  exact s_zret (tLet_ok i hi k hk).2 C hS dJ0_charAt_5068e_15 rfl
theorem z_withLetter (l : Launch) (lo : Nat) (adK adV : Nat → Nat) (x0 : Int64) (x2 : Int32) : Met l yX8_withLetter wUX8_withLetter rs0 (va_Pc [.long x0, .int x2] (kPs lo adK adV)) (va_Ql (fun r (_ : Unit) => r = x0 * 27 + ((x2 - 97) + 1).toInt64) (fun _ _ => True) fN) 0 0 fN := by
  refine s_start (cc := cX8_withLetter) (maxL := 3) (rt := some .long) (own := RX8) (by decide +kernel) rfl rfl (Nat.le_of_ble_eq_true rfl) ?_
  intro p e s m below meth c ls C hStr hS hl
  have hx := C.1
  have hb := C.2.1
  refine lv_lload_n hx hb dX8_withLetter_0 rfl (lv_at hl 0 rfl) ?_
  refine lv_ldc2 (v := 27) hx hb C.2.2.2.2.1 (C.2.2.2.2.2.1 _ (List.mem_cons_of_mem _ mw190)) dX8_withLetter_1 ?_
  refine lv_lmul hx hb dX8_withLetter_4 ?_
  refine lv_iload_n hx hb dX8_withLetter_5 rfl (lv_at hl 1 rfl) ?_
  refine lv_bipush (v := 97) hx hb dX8_withLetter_6 (by decide) ?_
  refine lv_isub hx hb dX8_withLetter_8 ?_
  refine lv_iconst (v := 1) hx hb dX8_withLetter_9 (by decide) ?_
  refine lv_iadd hx hb dX8_withLetter_10 ?_
  refine lv_i2l (v := ((x2 - 97) + 1).toInt64) hx hb dX8_withLetter_11 rfl ?_
  refine lv_ladd hx hb dX8_withLetter_12 ?_
  exact s_lret C hS dX8_withLetter_13 rfl
theorem z_wordText (l : Launch) (lo : Nat) (adK adV : Nat → Nat) {i : Nat} (hi : i < 17) : Met l yX8_wordText wUX8_wordText rs0 (va_Pc [.int (256 + Int32.ofNat i)] (kPs lo adK adV)) (va_Qr (fun _ : Unit => True) (fun _ a _ => a = adK i) fN) 0 0 fN := by
  refine s_start (cc := cX8_wordText) (maxL := 1) (rt := some (.object "java/lang/String")) (own := RX8) (by decide +kernel) rfl rfl (Nat.le_of_ble_eq_true rfl) ?_
  intro p e s m below meth c ls C hStr hS hl
  have hx := C.1
  have hb := C.2.1
  refine lv_iload_n hx hb dX8_wordText_0 rfl (lv_at hl 0 rfl) ?_
  match i, hi with
  | 0, hi =>
    refine lv_tableIn (tgt := 80) (off := 79) hx hb dX8_wordText_1 (by decide) (by decide) (by decide) (by decide) ?_
    refine va_ldcS hx hb C.2.2.2.2.1 (hStr.2.1 0 hi) dX8_wordText_80 ?_
    exact s_aret C hS dX8_wordText_82
  | 1, hi =>
    refine lv_tableIn (tgt := 83) (off := 82) hx hb dX8_wordText_1 (by decide) (by decide) (by decide) (by decide) ?_
    refine va_ldcS hx hb C.2.2.2.2.1 (hStr.2.1 1 hi) dX8_wordText_83 ?_
    exact s_aret C hS dX8_wordText_85
  | 2, hi =>
    refine lv_tableIn (tgt := 86) (off := 85) hx hb dX8_wordText_1 (by decide) (by decide) (by decide) (by decide) ?_
    refine va_ldcS hx hb C.2.2.2.2.1 (hStr.2.1 2 hi) dX8_wordText_86 ?_
    exact s_aret C hS dX8_wordText_88
  | 3, hi =>
    refine lv_tableIn (tgt := 89) (off := 88) hx hb dX8_wordText_1 (by decide) (by decide) (by decide) (by decide) ?_
    refine va_ldcS hx hb C.2.2.2.2.1 (hStr.2.1 3 hi) dX8_wordText_89 ?_
    exact s_aret C hS dX8_wordText_91
  | 4, hi =>
    refine lv_tableIn (tgt := 92) (off := 91) hx hb dX8_wordText_1 (by decide) (by decide) (by decide) (by decide) ?_
    refine va_ldcS hx hb C.2.2.2.2.1 (hStr.2.1 4 hi) dX8_wordText_92 ?_
    exact s_aret C hS dX8_wordText_94
  | 5, hi =>
    refine lv_tableIn (tgt := 95) (off := 94) hx hb dX8_wordText_1 (by decide) (by decide) (by decide) (by decide) ?_
    refine va_ldcS hx hb C.2.2.2.2.1 (hStr.2.1 5 hi) dX8_wordText_95 ?_
    exact s_aret C hS dX8_wordText_97
  | 6, hi =>
    refine lv_tableIn (tgt := 98) (off := 97) hx hb dX8_wordText_1 (by decide) (by decide) (by decide) (by decide) ?_
    refine va_ldcS hx hb C.2.2.2.2.1 (hStr.2.1 6 hi) dX8_wordText_98 ?_
    exact s_aret C hS dX8_wordText_100
  | 7, hi =>
    refine lv_tableIn (tgt := 101) (off := 100) hx hb dX8_wordText_1 (by decide) (by decide) (by decide) (by decide) ?_
    refine va_ldcS hx hb C.2.2.2.2.1 (hStr.2.1 7 hi) dX8_wordText_101 ?_
    exact s_aret C hS dX8_wordText_103
  | 8, hi =>
    refine lv_tableIn (tgt := 104) (off := 103) hx hb dX8_wordText_1 (by decide) (by decide) (by decide) (by decide) ?_
    refine va_ldcS hx hb C.2.2.2.2.1 (hStr.2.1 8 hi) dX8_wordText_104 ?_
    exact s_aret C hS dX8_wordText_106
  | 9, hi =>
    refine lv_tableIn (tgt := 107) (off := 106) hx hb dX8_wordText_1 (by decide) (by decide) (by decide) (by decide) ?_
    refine va_ldcS hx hb C.2.2.2.2.1 (hStr.2.1 9 hi) dX8_wordText_107 ?_
    exact s_aret C hS dX8_wordText_109
  | 10, hi =>
    refine lv_tableIn (tgt := 110) (off := 109) hx hb dX8_wordText_1 (by decide) (by decide) (by decide) (by decide) ?_
    refine va_ldcS hx hb C.2.2.2.2.1 (hStr.2.1 10 hi) dX8_wordText_110 ?_
    exact s_aret C hS dX8_wordText_112
  | 11, hi =>
    refine lv_tableIn (tgt := 113) (off := 112) hx hb dX8_wordText_1 (by decide) (by decide) (by decide) (by decide) ?_
    refine va_ldcS hx hb C.2.2.2.2.1 (hStr.2.1 11 hi) dX8_wordText_113 ?_
    exact s_aret C hS dX8_wordText_115
  | 12, hi =>
    refine lv_tableIn (tgt := 116) (off := 115) hx hb dX8_wordText_1 (by decide) (by decide) (by decide) (by decide) ?_
    refine va_ldcS hx hb C.2.2.2.2.1 (hStr.2.1 12 hi) dX8_wordText_116 ?_
    exact s_aret C hS dX8_wordText_118
  | 13, hi =>
    refine lv_tableIn (tgt := 119) (off := 118) hx hb dX8_wordText_1 (by decide) (by decide) (by decide) (by decide) ?_
    refine va_ldcS hx hb C.2.2.2.2.1 (hStr.2.1 13 hi) dX8_wordText_119 ?_
    exact s_aret C hS dX8_wordText_121
  | 14, hi =>
    refine lv_tableIn (tgt := 122) (off := 121) hx hb dX8_wordText_1 (by decide) (by decide) (by decide) (by decide) ?_
    refine va_ldcS hx hb C.2.2.2.2.1 (hStr.2.1 14 hi) dX8_wordText_122 ?_
    exact s_aret C hS dX8_wordText_124
  | 15, hi =>
    refine lv_tableIn (tgt := 125) (off := 124) hx hb dX8_wordText_1 (by decide) (by decide) (by decide) (by decide) ?_
    refine va_ldcS hx hb C.2.2.2.2.1 (hStr.2.1 15 hi) dX8_wordText_125 ?_
    exact s_aret C hS dX8_wordText_127
  | 16, hi =>
    refine lv_tableOut (tgt := 128) hx hb dX8_wordText_1 (by decide) (by decide) ?_
    refine va_ldcS hx hb C.2.2.2.2.1 (hStr.2.1 16 hi) dX8_wordText_128 ?_
    exact s_aret C hS dX8_wordText_130
  | i + 17, hi => exact absurd hi (by omega)
theorem s_keep {D : va_G} {cl : List vw_C} {ws : va_W} {H H1 : Heap} (hP : va_P D cl ws H) (hk : ∀ q : Nat, q < H.size → H1[q]? = H[q]?) : va_P D cl ws H1 := hP.kept (fun k q h => hk q.1 (hP k q h).lt)
theorem tI17 : ∀ i, i < 17 → vp_in (Int32.ofNat i) 17 ∧ (Int32.ofNat i).toNatClampNeg = i ∧ Int32.ofNat i + Int32.ofInt 1 = Int32.ofNat (i + 1) ∧ ¬ (17 : Int32) ≤ Int32.ofNat i := by
  unfold vp_in
  decide +kernel
theorem tK : ∀ i, i < 17 → ∀ k, k < tLen i → Int32.ofNat k + Int32.ofInt 1 = Int32.ofNat (k + 1) ∧ ¬ Int32.ofNat (tLen i) ≤ Int32.ofNat k := by decide +kernel
def wArr (i : Nat) : Nat → Int64 := fun j => if j < i then wTok j else 0
theorem wArr_0 : wArr 0 = fun _ => 0 := by
  funext j
  exact if_neg (Nat.not_lt_zero j)
theorem wArr_n : wArr 17 = wTok := by
  funext j
  unfold wArr
  by_cases h : j < 17
  · rw [if_pos h]
  · rw [if_neg h]
    unfold wTok
    rw [List.getD_eq_getElem?_getD, List.getElem?_eq_none (by simp; omega)]
    rfl
theorem wArr_s (i : Nat) : vp_updL (wArr i) i (wTok i) = wArr (i + 1) := by
  funext j
  unfold vp_updL wArr
  by_cases h : j = i
  · subst h
    rw [if_pos rfl, if_pos (Nat.lt_succ_self j)]
  · rw [if_neg h]
    by_cases h2 : j < i
    · rw [if_pos h2, if_pos (by omega)]
    · rw [if_neg h2, if_neg (by omega)]
section TOK2
variable {p : Program} {l : Launch} {e : Env} {s : State} {m : MethodId} {args : Array Value} {below : List Frame} {meth : Method} {c : Code} {lo : Nat} {adK adV : Nat → Nat} {A : Nat → Prop} {Q : State → Prop} {G : wG} {q0 q1 q2 q3 q4 : Nat}
theorem z_let (hx : p.tables.exec = Jvm.exec) (hb : c.code = cX8_init) (hml : c.maxLocals = 6) (hown : s.vm.findClass RX8 = some m.cls) (hts : ∀ w ∈ wUX8_init, w.before args s = true) (hStr : kStr lo adK adV s s.heap) (hAlo : ∀ q, A q → lo ≤ q) {i : Nat} (hi : i < 17) {ws : va_W}
    (kk : ∀ (H : Heap) (locs : List Loc) (ls : Array Slot), va_P G.1 vwCl ws H → va_S A s.heap H locs → lv_has ls 6 [(0, .ref q0), (1, .int (Int32.ofNat i)), (3, .long (wTok i))] → W p l e ri_X8_init s m args below meth c H locs 4 1223 Q (F0 m 92 ls [])) :
    ∀ (n k : Nat), n + k = tLen i → ∀ (H : Heap) (locs : List Loc) (ls : Array Slot), va_P G.1 vwCl ws H → va_S A s.heap H locs → lv_has ls 6 [(0, .ref q0), (1, .int (Int32.ofNat i)), (2, .ref (adK i)), (3, .long (tPart i k)), (5, .int (Int32.ofNat k))] → W p l e ri_X8_init s m args below meth c H locs 4 1223 Q (F0 m 66 ls []) := by
  intro n
  induction n with
  | zero =>
    intro k hnk H locs ls hP hS hl
    have hk : k = tLen i := by omega
    subst hk
    refine lv_iload hx hb dX8_init_66 (lv_at hl 4 rfl) ?_
    refine lv_aload_n hx hb dX8_init_68 rfl (lv_at hl 2 rfl) ?_
    refine s_ci hS (va_runV (As := []) (rest := [.int (Int32.ofNat (tLen i))]) ⟨hx, hb, hml, hown, hts⟩ (z_length l lo adK adV hi) (cwV 0 hts (gU_V mw138 mw139 mw140 mw141 mw142) rfl rfl rfl (by decide +kernel) ⟨Nat.le_of_ble_eq_true rfl, Nat.le_of_ble_eq_true rfl⟩) (s_preV hStr hS hAlo hi) rfl rfl hl.1 rfl (lv_room (Nat.le_of_ble_eq_true rfl)) dX8_init_69 ⟨Nat.le_of_ble_eq_true rfl, Nat.le_of_ble_eq_true rfl⟩) (fun r H locs hr hkp hS => ?_)
    subst hr
    have hP := s_keep hP hkp
    refine lv_icmp_ge (tgt := 92) hx hb dX8_init_72 (by decide) (fun _ => ?_) (fun c9 => absurd (Int32.le_refl _) c9)
    rw [tPart_ok i hi] at hl
    exact kk _ _ _ hP hS (lv_sub hl [0, 1, 3] rfl)
  | succ n ih =>
    intro k hnk H locs ls hP hS hl
    have hk : k < tLen i := by omega
    refine lv_iload hx hb dX8_init_66 (lv_at hl 4 rfl) ?_
    refine lv_aload_n hx hb dX8_init_68 rfl (lv_at hl 2 rfl) ?_
    refine s_ci hS (va_runV (As := []) (rest := [.int (Int32.ofNat k)]) ⟨hx, hb, hml, hown, hts⟩ (z_length l lo adK adV hi) (cwV 0 hts (gU_V mw138 mw139 mw140 mw141 mw142) rfl rfl rfl (by decide +kernel) ⟨Nat.le_of_ble_eq_true rfl, Nat.le_of_ble_eq_true rfl⟩) (s_preV hStr hS hAlo hi) rfl rfl hl.1 rfl (lv_room (Nat.le_of_ble_eq_true rfl)) dX8_init_69 ⟨Nat.le_of_ble_eq_true rfl, Nat.le_of_ble_eq_true rfl⟩) (fun r H locs hr hkp hS => ?_)
    subst hr
    have hP := s_keep hP hkp
    refine lv_icmp_ge (tgt := 92) hx hb dX8_init_72 (by decide) (fun c9 => absurd c9 (tK i hi k hk).2) (fun _ => ?_)
    refine lv_lload_n hx hb dX8_init_75 rfl (lv_at hl 3 rfl) ?_
    refine lv_aload_n hx hb dX8_init_76 rfl (lv_at hl 2 rfl) ?_
    refine lv_iload hx hb dX8_init_77 (lv_at hl 4 rfl) ?_
    refine s_ci hS (va_runV (As := [.int (Int32.ofNat k)]) (rest := [.long (tPart i k)]) ⟨hx, hb, hml, hown, hts⟩ (z_charAt l lo adK adV hi hk) (cwV 1 hts (gU_V mw150 mw151 mw152 mw141 mw153) rfl rfl rfl (by decide +kernel) ⟨Nat.le_of_ble_eq_true rfl, Nat.le_of_ble_eq_true rfl⟩) (s_preV hStr hS hAlo hi) rfl rfl hl.1 rfl (lv_room (Nat.le_of_ble_eq_true rfl)) dX8_init_79 ⟨Nat.le_of_ble_eq_true rfl, Nat.le_of_ble_eq_true rfl⟩) (fun r H locs hr hkp hS => ?_)
    subst hr
    have hP := s_keep hP hkp
    refine s_cl hS (va_runS (As := [.long (tPart i k), .int (tLet i k)]) (rest := []) ⟨hx, hb, hml, hown, hts⟩ (z_withLetter l lo adK adV (tPart i k) (tLet i k)) (va_cwS 2 hts (gU_S mw187 mw188 mw51 mw189) rfl rfl rfl (by decide +kernel) ⟨Nat.le_of_ble_eq_true rfl, Nat.le_of_ble_eq_true rfl⟩) (s_preS hStr hS hAlo) rfl rfl hl.1 rfl (lv_room (Nat.le_of_ble_eq_true rfl)) dX8_init_82 ⟨Nat.le_of_ble_eq_true rfl, Nat.le_of_ble_eq_true rfl⟩) (fun r H locs hr hkp hS => ?_)
    have hr : r = tPart i (k + 1) := hr
    subst hr
    have hP := s_keep hP hkp
    refine lv_lstore_n (lv' := [(3, .long (tPart i (k + 1))), (0, .ref q0), (1, .int (Int32.ofNat i)), (2, .ref (adK i)), (5, .int (Int32.ofNat k))]) hx hb dX8_init_85 rfl hl (by decide) rfl (fun ls hl => ?_)
    refine lv_iinc (v := Int32.ofNat (k + 1)) (lv' := [(5, .int (Int32.ofNat (k + 1))), (3, .long (tPart i (k + 1))), (0, .ref q0), (1, .int (Int32.ofNat i)), (2, .ref (adK i))]) hx hb dX8_init_86 hl (k := 4) rfl (tK i hi k hk).1 (by decide) rfl (fun ls hl => ?_)
    refine lv_goto (tgt := 66) hx hb dX8_init_89 (by decide) ?_
    exact ih (k + 1) (by omega) _ _ _ hP hS (lv_sub hl [2, 3, 4, 1, 0] rfl)
def wsTk (G : wG) (q0 q1 q2 q3 q4 i : Nat) : va_W := [(q0, .inr (8, [.ref q1, .ref q2, .ref q3, .ref q4, .int 0])), (q1, .inl (G.2.1 14, 402, .inl (fun _ => 0))), (q2, .inl (G.2.1 14, 402, .inl (fun _ => 0))), (q3, .inl (G.2.1 15, 402, .inr (.inl (fun _ => 0)))), (q4, .inl (G.2.1 15, 17, .inr (.inl (wArr i))))]
theorem z_words (hx : p.tables.exec = Jvm.exec) (hb : c.code = cX8_init) (hml : c.maxLocals = 6) (hown : s.vm.findClass RX8 = some m.cls) (hts : ∀ w ∈ wUX8_init, w.before args s = true) (hK : kK G s) (hStr : kStr lo adK adV s s.heap) (hAlo : ∀ q, A q → lo ≤ q)
    (kk : ∀ (H : Heap) (locs : List Loc) (ls : Array Slot), va_P G.1 vwCl (wsTk G q0 q1 q2 q3 q4 17) H → va_D A (wsTk G q0 q1 q2 q3 q4 17) → va_S A s.heap H locs → W p l e ri_X8_init s m args below meth c H locs 4 1223 Q (F0 m 105 ls [])) :
    ∀ (n i : Nat), n + i = 17 → ∀ (H : Heap) (locs : List Loc) (ls : Array Slot), va_P G.1 vwCl (wsTk G q0 q1 q2 q3 q4 i) H → va_D A (wsTk G q0 q1 q2 q3 q4 i) → va_S A s.heap H locs → lv_has ls 6 [(0, .ref q0), (1, .int (Int32.ofNat i))] → W p l e ri_X8_init s m args below meth c H locs 4 1223 Q (F0 m 46 ls []) := by
  intro n
  induction n with
  | zero =>
    intro i hni H locs ls hP hD hS hl
    have hi : i = 17 := by omega
    subst hi
    refine lv_iload_n hx hb dX8_init_46 rfl (lv_at hl 1 rfl) ?_
    refine lv_bipush (v := 17) hx hb dX8_init_47 (by decide) ?_
    refine lv_icmp_ge (tgt := 105) hx hb dX8_init_49 (by decide) (fun _ => ?_) (fun c9 => absurd (by decide) c9)
    exact kk _ _ _ hP hD hS
  | succ n ih =>
    intro i hni H locs ls hP hD hS hl
    have hi : i < 17 := by omega
    refine lv_iload_n hx hb dX8_init_46 rfl (lv_at hl 1 rfl) ?_
    refine lv_bipush (v := 17) hx hb dX8_init_47 (by decide) ?_
    refine lv_icmp_ge (tgt := 105) hx hb dX8_init_49 (by decide) (fun c9 => absurd c9 (tI17 i hi).2.2.2) (fun _ => ?_)
    refine lv_sipush (v := 256) hx hb dX8_init_52 (by decide) ?_
    refine lv_iload_n hx hb dX8_init_55 rfl (lv_at hl 1 rfl) ?_
    refine lv_iadd hx hb dX8_init_56 ?_
    refine s_cr hS (va_runS (As := [.int (256 + Int32.ofNat i)]) (rest := []) ⟨hx, hb, hml, hown, hts⟩ (z_wordText l lo adK adV hi) (va_cwS 1 hts (gU_S mw135 mw136 mw51 mw137) rfl rfl rfl (by decide +kernel) ⟨Nat.le_of_ble_eq_true rfl, Nat.le_of_ble_eq_true rfl⟩) (s_preS hStr hS hAlo) rfl rfl hl.1 rfl (lv_room (Nat.le_of_ble_eq_true rfl)) dX8_init_57 ⟨Nat.le_of_ble_eq_true rfl, Nat.le_of_ble_eq_true rfl⟩) (fun H locs hkp hS => ?_)
    have hP := s_keep hP hkp
    refine lv_astore_n (lv' := [(2, .ref (adK i)), (0, .ref q0), (1, .int (Int32.ofNat i))]) hx hb dX8_init_60 rfl hl (by decide) rfl (fun ls hl => ?_)
    refine lv_lconst (v := 0) hx hb dX8_init_61 (by decide) ?_
    refine lv_lstore_n (lv' := [(3, .long 0), (2, .ref (adK i)), (0, .ref q0), (1, .int (Int32.ofNat i))]) hx hb dX8_init_62 rfl hl (by decide) rfl (fun ls hl => ?_)
    refine lv_iconst (v := 0) hx hb dX8_init_63 (by decide) ?_
    refine lv_istore (lv' := [(5, .int 0), (3, .long 0), (2, .ref (adK i)), (0, .ref q0), (1, .int (Int32.ofNat i))]) hx hb dX8_init_64 hl (by decide) rfl (fun ls hl => ?_)
    refine z_let (ws := wsTk G q0 q1 q2 q3 q4 i) (q0 := q0) hx hb hml hown hts hStr hAlo hi (fun H locs ls hP hS hl => ?_) (tLen i) 0 rfl _ _ _ hP hS (lv_sub hl [3, 4, 2, 1, 0] rfl)
    refine lv_aload_n hx hb dX8_init_92 rfl (lv_at hl 0 rfl) ?_
    refine va_get (D := G.1) (ci := 8) (v := .ref q4) (C := RX8) (T := TX8) (N := 5) hx hb hts (fun _ h9 => List.mem_cons_of_mem _ (inU_wsX80 _ h9)) hown hK.1 hP 0 rfl rfl 3 (by decide) (hts _ (List.mem_cons_of_mem _ mw133)) (fun _ h9 => h9) rfl dX8_init_93 ?_
    refine lv_iload_n hx hb dX8_init_96 rfl (lv_at hl 1 rfl) ?_
    refine lv_lload_n hx hb dX8_init_97 rfl (lv_at hl 2 rfl) ?_
    refine va_last hx hb hK.1 hP hD hS 4 2 rfl rfl (tI17 i hi).1 dX8_init_98 (fun H locs hP hD hS => ?_)
    rw [(tI17 i hi).2.1, wArr_s] at hP hD
    refine lv_iinc (v := Int32.ofNat (i + 1)) (lv' := [(1, .int (Int32.ofNat (i + 1))), (0, .ref q0), (3, .long (wTok i))]) hx hb dX8_init_99 hl (k := 1) rfl (tI17 i hi).2.2.1 (by decide) rfl (fun ls hl => ?_)
    refine lv_goto (tgt := 46) hx hb dX8_init_102 (by decide) ?_
    exact ih (i + 1) (by omega) _ _ _ hP hD hS (lv_sub hl [1, 0] rfl)
end TOK2
set_option maxRecDepth 100000 in
theorem i_X8_init (l : Launch) (G : wG) (q0 : Nat) (sz : Nat) (lo : Nat) (adK adV : Nat → Nat) : Met l yX8_init wUX8_init ri_X8_init (va_Pc [.ref q0] (kSt lo adK adV q0 sz G [(q0, .inr (8, [.null, .null, .null, .null, .int 0]))])) (va_Qv (fun _ : Nat → Nat => True) (fun u t => va_P G.1 vwCl [(q0, .inr (8, [.ref (u 1), .ref (u 2), .ref (u 3), .ref (u 4), .int 0])), ((u 1), .inl (G.2.1 14, 402, .inl (fun _ => 0))), ((u 2), .inl (G.2.1 14, 402, .inl (fun _ => 0))), ((u 3), .inl (G.2.1 15, 402, .inr (.inl (fun _ => 0)))), ((u 4), .inl (G.2.1 15, 17, .inr (.inl wTok)))] t.heap ∧ va_D (va_A [(q0, .inr (8, [.null, .null, .null, .null, .int 0]))] sz) [(q0, .inr (8, [.ref (u 1), .ref (u 2), .ref (u 3), .ref (u 4), .int 0])), ((u 1), .inl (G.2.1 14, 402, .inl (fun _ => 0))), ((u 2), .inl (G.2.1 14, 402, .inl (fun _ => 0))), ((u 3), .inl (G.2.1 15, 402, .inr (.inl (fun _ => 0)))), ((u 4), .inl (G.2.1 15, 17, .inr (.inl wTok)))]) (va_A [(q0, .inr (8, [.null, .null, .null, .null, .int 0]))] sz)) 4 1223 (va_A [(q0, .inr (8, [.null, .null, .null, .null, .int 0]))] sz) := by
  refine Met.ofW (cc := cX8_init) (maxL := 6) (ret := none) (by decide) rfl ?_
  intro p e s m args below meth c s₁ B hml hv
  obtain ⟨rfl, hsz, hP, hK, hD0, hStr, hlq, hls⟩ := hv
  have hx := B.exec
  have hb := B.bytes
  have hr := B.returns
  have hts := atoms_spec (ws := wUX8_init) B.pre
  have hown : s.vm.findClass RX8 = some m.cls := findClass_of_methodNamed B.named
  have hlocks := B.notSynchronized
  have hin : meth.name = "<init>" := (name_of_methodNamed B.named B.method).1
  subst hsz
  have hD := hD0.self (sz := s.heap.size)
  generalize hAe : va_A [(q0, .inr (8, [.null, .null, .null, .null, .int 0]))] s.heap.size = A at hD ⊢
  have hAlo : ∀ q : Nat, A q → lo ≤ q := fun q h => by
    rw [← hAe] at h
    rcases h with ⟨k, e, h⟩ | h
    · match k, h with
      | 0, h => cases h; exact hlq
      | k + 1, h => simp at h
    · exact Nat.le_trans hls h
  have hA : ∀ q : Nat, s.heap.size ≤ q → A q := fun q h => by rw [← hAe]; exact Or.inr h
  have hS : va_S A s.heap s.heap [] := va_S.rf
  have hl := lv_entry ([.ref q0]) (n := 6) (Nat.le_of_ble_eq_true rfl)
  rw [lg_entry_eq]
  generalize (lg_sl ([.ref q0]) ++ List.replicate (6 - (lg_sl ([.ref q0])).length) Slot.unset).toArray = ls at hl ⊢
  have hl : lv_has ls 6 [(0, .ref q0)] := hl
  refine lv_aload_n hx hb dX8_init_0 rfl (lv_at hl 0 rfl) ?_
  refine W.objInit hx hb hown (hts _ (List.mem_cons_of_mem _ mw129)) (hts _ (List.mem_cons_of_mem _ mw11)) (hts _ (List.mem_cons_of_mem _ mw12)) rfl (by rw [hml]; exact hl.1) rfl dX8_init_1 (Nat.le_of_ble_eq_true rfl) (Nat.le_of_ble_eq_true rfl) ?_
  refine W.eq (g2 := F0 m 4 ls []) rfl ?_
  refine lv_aload_n hx hb dX8_init_4 rfl (lv_at hl 0 rfl) ?_
  refine lv_sipush (v := 402) hx hb dX8_init_5 (by decide) ?_
  refine k_newaI (ty := .int) hx hb (hts _ (List.mem_cons_of_mem _ mw62)) rfl rfl hK hP hD hS hA (a0 := (402, .inl (fun _ => 0))) (fun _ => rfl) (by decide) rfl (Nat.le_of_ble_eq_true rfl) (Nat.le_of_ble_eq_true rfl) (Nat.le_of_ble_eq_true rfl) dX8_init_8 (fun q1 H hP hD hS => ?_)
  have hP : va_P G.1 vwCl [(q0, .inr (8, [.null, .null, .null, .null, .int 0])), (q1, .inl (G.2.1 14, 402, .inl (fun _ => 0)))] H := hP
  have hD : va_D A [(q0, .inr (8, [.null, .null, .null, .null, .int 0])), (q1, .inl (G.2.1 14, 402, .inl (fun _ => 0)))] := hD
  refine va_putF (D := G.1) (ci := 8) (v := .ref q1) (ty := .array (.int)) (C := RX8) (T := TX8) (N := 5) hx hb hts (fun _ h9 => List.mem_cons_of_mem _ (inU_wsX80 _ h9)) tyX8 tyX8_ok nmX8 hown hK.1 hP hD hS 0 rfl rfl 0 (by decide) (hts _ (List.mem_cons_of_mem _ mw130)) (fun _ h9 => h9) rfl hin rfl (by decide +kernel) rfl rfl (by exact Nat.le_of_ble_eq_true rfl) dX8_init_10 (fun H locs hP hD hS => ?_)
  have hP : va_P G.1 vwCl [(q0, .inr (8, [.ref q1, .null, .null, .null, .int 0])), (q1, .inl (G.2.1 14, 402, .inl (fun _ => 0)))] H := hP
  have hD : va_D A [(q0, .inr (8, [.ref q1, .null, .null, .null, .int 0])), (q1, .inl (G.2.1 14, 402, .inl (fun _ => 0)))] := hD
  refine lv_aload_n hx hb dX8_init_13 rfl (lv_at hl 0 rfl) ?_
  refine lv_sipush (v := 402) hx hb dX8_init_14 (by decide) ?_
  refine k_newaI (ty := .int) hx hb (hts _ (List.mem_cons_of_mem _ mw62)) rfl rfl hK hP hD hS hA (a0 := (402, .inl (fun _ => 0))) (fun _ => rfl) (by decide) rfl (Nat.le_of_ble_eq_true rfl) (Nat.le_of_ble_eq_true rfl) (Nat.le_of_ble_eq_true rfl) dX8_init_17 (fun q2 H hP hD hS => ?_)
  have hP : va_P G.1 vwCl [(q0, .inr (8, [.ref q1, .null, .null, .null, .int 0])), (q1, .inl (G.2.1 14, 402, .inl (fun _ => 0))), (q2, .inl (G.2.1 14, 402, .inl (fun _ => 0)))] H := hP
  have hD : va_D A [(q0, .inr (8, [.ref q1, .null, .null, .null, .int 0])), (q1, .inl (G.2.1 14, 402, .inl (fun _ => 0))), (q2, .inl (G.2.1 14, 402, .inl (fun _ => 0)))] := hD
  refine va_putF (D := G.1) (ci := 8) (v := .ref q2) (ty := .array (.int)) (C := RX8) (T := TX8) (N := 5) hx hb hts (fun _ h9 => List.mem_cons_of_mem _ (inU_wsX80 _ h9)) tyX8 tyX8_ok nmX8 hown hK.1 hP hD hS 0 rfl rfl 1 (by decide) (hts _ (List.mem_cons_of_mem _ mw131)) (fun _ h9 => h9) rfl hin rfl (by decide +kernel) rfl rfl (by exact Nat.le_of_ble_eq_true rfl) dX8_init_19 (fun H locs hP hD hS => ?_)
  have hP : va_P G.1 vwCl [(q0, .inr (8, [.ref q1, .ref q2, .null, .null, .int 0])), (q1, .inl (G.2.1 14, 402, .inl (fun _ => 0))), (q2, .inl (G.2.1 14, 402, .inl (fun _ => 0)))] H := hP
  have hD : va_D A [(q0, .inr (8, [.ref q1, .ref q2, .null, .null, .int 0])), (q1, .inl (G.2.1 14, 402, .inl (fun _ => 0))), (q2, .inl (G.2.1 14, 402, .inl (fun _ => 0)))] := hD
  refine lv_aload_n hx hb dX8_init_22 rfl (lv_at hl 0 rfl) ?_
  refine lv_sipush (v := 402) hx hb dX8_init_23 (by decide) ?_
  refine k_newaJ (ty := .long) hx hb (hts _ (List.mem_cons_of_mem _ mw64)) rfl rfl hK hP hD hS hA (a0 := (402, .inr (.inl (fun _ => 0)))) (fun _ => rfl) (by decide) rfl (Nat.le_of_ble_eq_true rfl) (Nat.le_of_ble_eq_true rfl) (Nat.le_of_ble_eq_true rfl) dX8_init_26 (fun q3 H hP hD hS => ?_)
  have hP : va_P G.1 vwCl [(q0, .inr (8, [.ref q1, .ref q2, .null, .null, .int 0])), (q1, .inl (G.2.1 14, 402, .inl (fun _ => 0))), (q2, .inl (G.2.1 14, 402, .inl (fun _ => 0))), (q3, .inl (G.2.1 15, 402, .inr (.inl (fun _ => 0))))] H := hP
  have hD : va_D A [(q0, .inr (8, [.ref q1, .ref q2, .null, .null, .int 0])), (q1, .inl (G.2.1 14, 402, .inl (fun _ => 0))), (q2, .inl (G.2.1 14, 402, .inl (fun _ => 0))), (q3, .inl (G.2.1 15, 402, .inr (.inl (fun _ => 0))))] := hD
  refine va_putF (D := G.1) (ci := 8) (v := .ref q3) (ty := .array (.long)) (C := RX8) (T := TX8) (N := 5) hx hb hts (fun _ h9 => List.mem_cons_of_mem _ (inU_wsX80 _ h9)) tyX8 tyX8_ok nmX8 hown hK.1 hP hD hS 0 rfl rfl 2 (by decide) (hts _ (List.mem_cons_of_mem _ mw132)) (fun _ h9 => h9) rfl hin rfl (by decide +kernel) rfl rfl (by exact Nat.le_of_ble_eq_true rfl) dX8_init_28 (fun H locs hP hD hS => ?_)
  have hP : va_P G.1 vwCl [(q0, .inr (8, [.ref q1, .ref q2, .ref q3, .null, .int 0])), (q1, .inl (G.2.1 14, 402, .inl (fun _ => 0))), (q2, .inl (G.2.1 14, 402, .inl (fun _ => 0))), (q3, .inl (G.2.1 15, 402, .inr (.inl (fun _ => 0))))] H := hP
  have hD : va_D A [(q0, .inr (8, [.ref q1, .ref q2, .ref q3, .null, .int 0])), (q1, .inl (G.2.1 14, 402, .inl (fun _ => 0))), (q2, .inl (G.2.1 14, 402, .inl (fun _ => 0))), (q3, .inl (G.2.1 15, 402, .inr (.inl (fun _ => 0))))] := hD
  refine lv_aload_n hx hb dX8_init_31 rfl (lv_at hl 0 rfl) ?_
  refine lv_bipush (v := 17) hx hb dX8_init_32 (by decide) ?_
  refine k_newaJ (ty := .long) hx hb (hts _ (List.mem_cons_of_mem _ mw64)) rfl rfl hK hP hD hS hA (a0 := (17, .inr (.inl (fun _ => 0)))) (fun _ => rfl) (by decide) rfl (Nat.le_of_ble_eq_true rfl) (Nat.le_of_ble_eq_true rfl) (Nat.le_of_ble_eq_true rfl) dX8_init_34 (fun q4 H hP hD hS => ?_)
  have hP : va_P G.1 vwCl [(q0, .inr (8, [.ref q1, .ref q2, .ref q3, .null, .int 0])), (q1, .inl (G.2.1 14, 402, .inl (fun _ => 0))), (q2, .inl (G.2.1 14, 402, .inl (fun _ => 0))), (q3, .inl (G.2.1 15, 402, .inr (.inl (fun _ => 0)))), (q4, .inl (G.2.1 15, 17, .inr (.inl (fun _ => 0))))] H := hP
  have hD : va_D A [(q0, .inr (8, [.ref q1, .ref q2, .ref q3, .null, .int 0])), (q1, .inl (G.2.1 14, 402, .inl (fun _ => 0))), (q2, .inl (G.2.1 14, 402, .inl (fun _ => 0))), (q3, .inl (G.2.1 15, 402, .inr (.inl (fun _ => 0)))), (q4, .inl (G.2.1 15, 17, .inr (.inl (fun _ => 0))))] := hD
  refine va_putF (D := G.1) (ci := 8) (v := .ref q4) (ty := .array (.long)) (C := RX8) (T := TX8) (N := 5) hx hb hts (fun _ h9 => List.mem_cons_of_mem _ (inU_wsX80 _ h9)) tyX8 tyX8_ok nmX8 hown hK.1 hP hD hS 0 rfl rfl 3 (by decide) (hts _ (List.mem_cons_of_mem _ mw133)) (fun _ h9 => h9) rfl hin rfl (by decide +kernel) rfl rfl (by exact Nat.le_of_ble_eq_true rfl) dX8_init_36 (fun H locs hP hD hS => ?_)
  have hP : va_P G.1 vwCl [(q0, .inr (8, [.ref q1, .ref q2, .ref q3, .ref q4, .int 0])), (q1, .inl (G.2.1 14, 402, .inl (fun _ => 0))), (q2, .inl (G.2.1 14, 402, .inl (fun _ => 0))), (q3, .inl (G.2.1 15, 402, .inr (.inl (fun _ => 0)))), (q4, .inl (G.2.1 15, 17, .inr (.inl (fun _ => 0))))] H := hP
  have hD : va_D A [(q0, .inr (8, [.ref q1, .ref q2, .ref q3, .ref q4, .int 0])), (q1, .inl (G.2.1 14, 402, .inl (fun _ => 0))), (q2, .inl (G.2.1 14, 402, .inl (fun _ => 0))), (q3, .inl (G.2.1 15, 402, .inr (.inl (fun _ => 0)))), (q4, .inl (G.2.1 15, 17, .inr (.inl (fun _ => 0))))] := hD
  refine lv_aload_n hx hb dX8_init_39 rfl (lv_at hl 0 rfl) ?_
  refine lv_iconst (v := 0) hx hb dX8_init_40 (by decide) ?_
  refine va_put (D := G.1) (ci := 8) (v := .int 0) (ty := .int) (C := RX8) (T := TX8) (N := 5) hx hb hts (fun _ h9 => List.mem_cons_of_mem _ (inU_wsX80 _ h9)) tyX8 tyX8_ok nmX8 hown hK.1 hP hD hS 0 rfl rfl 4 (by decide) (hts _ (List.mem_cons_of_mem _ mw134)) (fun _ h9 => h9) rfl (by decide +kernel) rfl rfl (by exact Nat.le_of_ble_eq_true rfl) dX8_init_41 (fun H locs hP hD hS => ?_)
  have hP : va_P G.1 vwCl [(q0, .inr (8, [.ref q1, .ref q2, .ref q3, .ref q4, .int 0])), (q1, .inl (G.2.1 14, 402, .inl (fun _ => 0))), (q2, .inl (G.2.1 14, 402, .inl (fun _ => 0))), (q3, .inl (G.2.1 15, 402, .inr (.inl (fun _ => 0)))), (q4, .inl (G.2.1 15, 17, .inr (.inl (fun _ => 0))))] H := hP
  have hD : va_D A [(q0, .inr (8, [.ref q1, .ref q2, .ref q3, .ref q4, .int 0])), (q1, .inl (G.2.1 14, 402, .inl (fun _ => 0))), (q2, .inl (G.2.1 14, 402, .inl (fun _ => 0))), (q3, .inl (G.2.1 15, 402, .inr (.inl (fun _ => 0)))), (q4, .inl (G.2.1 15, 17, .inr (.inl (fun _ => 0))))] := hD
  have hP0 : va_P G.1 vwCl (wsTk G q0 q1 q2 q3 q4 0) H := by rw [wsTk, wArr_0]; exact hP
  have hD0 : va_D A (wsTk G q0 q1 q2 q3 q4 0) := by rw [wsTk, wArr_0]; exact hD
  refine lv_iconst (v := 0) hx hb dX8_init_44 (by decide) ?_
  refine lv_istore_n (lv' := [(1, .int 0), (0, .ref q0)]) hx hb dX8_init_45 rfl hl (by decide) rfl (fun ls hl => ?_)
  refine z_words (q0 := q0) (q1 := q1) (q2 := q2) (q3 := q3) (q4 := q4) hx hb hml hown hts hK hStr hAlo (fun H locs ls hP hD hS => ?_) 17 0 rfl _ _ _ hP0 hD0 hS (lv_sub hl [1, 0] rfl)
  rw [wsTk, wArr_n] at hP hD
  exact W.vret hx hb hr (fun t ht hW9 => ⟨⟨fun i => [q0, q1, q2, q3, q4].getD i 0, rfl, trivial, by rw [ht]; exact hP, hD⟩, hS.F ht⟩) hS.2.2 dX8_init_105
abbrev ri_X5_init : Room := { frames := 6, cells := 30, slots := 12582, locals := 155 }
set_option maxRecDepth 100000 in
theorem i_X5_init (l : Launch) (G : wG) (q0 : Nat) (sz : Nat) (lo : Nat) (adK adV : Nat → Nat) : Met l yX5_init wUX5_init ri_X5_init (va_Pc [.ref q0] (kSt lo adK adV q0 sz G [(q0, .inr (5, [.int 0, .int 0, .int 0, .int 0, .null, .null, .null]))])) (va_Qv (fun _ : (Nat → Nat) × (Nat → Nat) => True) (fun u t => va_P G.1 vwCl [(q0, .inr (5, [.int (-1), .int 0, .int 0, .int 0, .ref (u.2 0), .ref (u.1 1), .ref (u.1 6)])), ((u.2 0), cellT G.2.1 u.2 hText 0), ((u.2 1), cellT G.2.1 u.2 hText 1), ((u.2 2), cellT G.2.1 u.2 hText 2), ((u.2 3), cellT G.2.1 u.2 hText 3), ((u.2 4), cellT G.2.1 u.2 hText 4), ((u.2 5), cellT G.2.1 u.2 hText 5), ((u.2 6), cellT G.2.1 u.2 hText 6), ((u.2 7), cellT G.2.1 u.2 hText 7), ((u.2 8), cellT G.2.1 u.2 hText 8), ((u.2 9), cellT G.2.1 u.2 hText 9), ((u.2 10), cellT G.2.1 u.2 hText 10), ((u.2 11), cellT G.2.1 u.2 hText 11), ((u.2 12), cellT G.2.1 u.2 hText 12), ((u.2 13), cellT G.2.1 u.2 hText 13), ((u.2 14), cellT G.2.1 u.2 hText 14), ((u.2 15), cellT G.2.1 u.2 hText 15), ((u.2 16), cellT G.2.1 u.2 hText 16), ((u.2 17), cellT G.2.1 u.2 hText 17), ((u.1 1), .inr (8, [.ref (u.1 2), .ref (u.1 3), .ref (u.1 4), .ref (u.1 5), .int 0])), ((u.1 2), .inl (G.2.1 14, 402, .inl (fun _ => 0))), ((u.1 3), .inl (G.2.1 14, 402, .inl (fun _ => 0))), ((u.1 4), .inl (G.2.1 15, 402, .inr (.inl (fun _ => 0)))), ((u.1 5), .inl (G.2.1 15, 17, .inr (.inl wTok))), ((u.1 6), .inr (3, [.ref (u.1 7), .int 1, .int 1, .int 1, .int 59, .int 0, .int 0, .int 0, .ref (u.1 12), .int 0])), ((u.1 7), .inr (2, [.ref (u.1 8), .ref (u.1 9), .int 0, .ref (u.1 10), .ref (u.1 11)])), ((u.1 8), .inl (G.2.1 14, 402, .inl (fun _ => 0))), ((u.1 9), .inl (G.2.1 14, 402, .inl (fun _ => 0))), ((u.1 10), .inl (G.2.1 14, 6, .inl (fun _ => 0))), ((u.1 11), .inl (G.2.1 14, 42, .inl (fun _ => 0))), ((u.1 12), .inl (G.2.1 14, 21, .inl (fun _ => 0)))] t.heap ∧ va_D (va_A [(q0, .inr (5, [.int 0, .int 0, .int 0, .int 0, .null, .null, .null]))] sz) [(q0, .inr (5, [.int (-1), .int 0, .int 0, .int 0, .ref (u.2 0), .ref (u.1 1), .ref (u.1 6)])), ((u.2 0), cellT G.2.1 u.2 hText 0), ((u.2 1), cellT G.2.1 u.2 hText 1), ((u.2 2), cellT G.2.1 u.2 hText 2), ((u.2 3), cellT G.2.1 u.2 hText 3), ((u.2 4), cellT G.2.1 u.2 hText 4), ((u.2 5), cellT G.2.1 u.2 hText 5), ((u.2 6), cellT G.2.1 u.2 hText 6), ((u.2 7), cellT G.2.1 u.2 hText 7), ((u.2 8), cellT G.2.1 u.2 hText 8), ((u.2 9), cellT G.2.1 u.2 hText 9), ((u.2 10), cellT G.2.1 u.2 hText 10), ((u.2 11), cellT G.2.1 u.2 hText 11), ((u.2 12), cellT G.2.1 u.2 hText 12), ((u.2 13), cellT G.2.1 u.2 hText 13), ((u.2 14), cellT G.2.1 u.2 hText 14), ((u.2 15), cellT G.2.1 u.2 hText 15), ((u.2 16), cellT G.2.1 u.2 hText 16), ((u.2 17), cellT G.2.1 u.2 hText 17), ((u.1 1), .inr (8, [.ref (u.1 2), .ref (u.1 3), .ref (u.1 4), .ref (u.1 5), .int 0])), ((u.1 2), .inl (G.2.1 14, 402, .inl (fun _ => 0))), ((u.1 3), .inl (G.2.1 14, 402, .inl (fun _ => 0))), ((u.1 4), .inl (G.2.1 15, 402, .inr (.inl (fun _ => 0)))), ((u.1 5), .inl (G.2.1 15, 17, .inr (.inl wTok))), ((u.1 6), .inr (3, [.ref (u.1 7), .int 1, .int 1, .int 1, .int 59, .int 0, .int 0, .int 0, .ref (u.1 12), .int 0])), ((u.1 7), .inr (2, [.ref (u.1 8), .ref (u.1 9), .int 0, .ref (u.1 10), .ref (u.1 11)])), ((u.1 8), .inl (G.2.1 14, 402, .inl (fun _ => 0))), ((u.1 9), .inl (G.2.1 14, 402, .inl (fun _ => 0))), ((u.1 10), .inl (G.2.1 14, 6, .inl (fun _ => 0))), ((u.1 11), .inl (G.2.1 14, 42, .inl (fun _ => 0))), ((u.1 12), .inl (G.2.1 14, 21, .inl (fun _ => 0)))]) (va_A [(q0, .inr (5, [.int 0, .int 0, .int 0, .int 0, .null, .null, .null]))] sz)) 30 12582 (va_A [(q0, .inr (5, [.int 0, .int 0, .int 0, .int 0, .null, .null, .null]))] sz) := by
  refine Met.ofW (cc := cX5_init) (maxL := 1) (ret := none) (by decide) rfl ?_
  intro p e s m args below meth c s₁ B hml hv
  obtain ⟨rfl, hsz, hP, hK, hD0, hStr, hlq, hls⟩ := hv
  have hx := B.exec
  have hb := B.bytes
  have hr := B.returns
  have hts := atoms_spec (ws := wUX5_init) B.pre
  have hown : s.vm.findClass RX5 = some m.cls := findClass_of_methodNamed B.named
  have hlocks := B.notSynchronized
  have hin : meth.name = "<init>" := (name_of_methodNamed B.named B.method).1
  subst hsz
  have hD := hD0.self (sz := s.heap.size)
  generalize hAe : va_A [(q0, .inr (5, [.int 0, .int 0, .int 0, .int 0, .null, .null, .null]))] s.heap.size = A at hD ⊢
  have hAlo : ∀ q : Nat, A q → lo ≤ q := fun q h => by
    rw [← hAe] at h
    rcases h with ⟨k, e, h⟩ | h
    · match k, h with
      | 0, h => cases h; exact hlq
      | k + 1, h => simp at h
    · exact Nat.le_trans hls h
  have hA : ∀ q : Nat, s.heap.size ≤ q → A q := fun q h => by rw [← hAe]; exact Or.inr h
  have hS : va_S A s.heap s.heap [] := va_S.rf
  have hl := lv_entry ([.ref q0]) (n := 1) (Nat.le_of_ble_eq_true rfl)
  rw [lg_entry_eq]
  generalize (lg_sl ([.ref q0]) ++ List.replicate (1 - (lg_sl ([.ref q0])).length) Slot.unset).toArray = ls at hl ⊢
  have hl : lv_has ls 1 [(0, .ref q0)] := hl
  refine lv_aload_n hx hb dX5_init_0 rfl (lv_at hl 0 rfl) ?_
  refine W.objInit hx hb hown (hts _ (List.mem_cons_of_mem _ mw42)) (hts _ (List.mem_cons_of_mem _ mw11)) (hts _ (List.mem_cons_of_mem _ mw12)) rfl (by rw [hml]; exact hl.1) rfl dX5_init_1 (Nat.le_of_ble_eq_true rfl) (Nat.le_of_ble_eq_true rfl) ?_
  refine W.eq (g2 := F0 m 4 ls []) rfl ?_
  refine lv_aload_n hx hb dX5_init_4 rfl (lv_at hl 0 rfl) ?_
  refine lv_iconst (v := (-1)) hx hb dX5_init_5 (by decide) ?_
  refine va_put (D := G.1) (ci := 5) (v := .int (-1)) (ty := .int) (C := RX5) (T := TX5) (N := 7) hx hb hts (fun _ h9 => List.mem_cons_of_mem _ (inU_wsX50 _ h9)) tyX5 tyX5_ok nmX5 hown hK.1 hP hD hS 0 rfl rfl 0 (by decide) (hts _ (List.mem_cons_of_mem _ mw43)) (fun _ h9 => h9) rfl (by decide +kernel) rfl rfl (by exact Nat.le_of_ble_eq_true rfl) dX5_init_6 (fun H locs hP hD hS => ?_)
  have hP : va_P G.1 vwCl [(q0, .inr (5, [.int (-1), .int 0, .int 0, .int 0, .null, .null, .null]))] H := hP
  have hD : va_D A [(q0, .inr (5, [.int (-1), .int 0, .int 0, .int 0, .null, .null, .null]))] := hD
  refine lv_aload_n hx hb dX5_init_9 rfl (lv_at hl 0 rfl) ?_
  refine lv_iconst (v := 0) hx hb dX5_init_10 (by decide) ?_
  refine va_put (D := G.1) (ci := 5) (v := .int 0) (ty := .int) (C := RX5) (T := TX5) (N := 7) hx hb hts (fun _ h9 => List.mem_cons_of_mem _ (inU_wsX50 _ h9)) tyX5 tyX5_ok nmX5 hown hK.1 hP hD hS 0 rfl rfl 1 (by decide) (hts _ (List.mem_cons_of_mem _ mw44)) (fun _ h9 => h9) rfl (by decide +kernel) rfl rfl (by exact Nat.le_of_ble_eq_true rfl) dX5_init_11 (fun H locs hP hD hS => ?_)
  have hP : va_P G.1 vwCl [(q0, .inr (5, [.int (-1), .int 0, .int 0, .int 0, .null, .null, .null]))] H := hP
  have hD : va_D A [(q0, .inr (5, [.int (-1), .int 0, .int 0, .int 0, .null, .null, .null]))] := hD
  refine lv_aload_n hx hb dX5_init_14 rfl (lv_at hl 0 rfl) ?_
  refine lv_iconst (v := 0) hx hb dX5_init_15 (by decide) ?_
  refine va_put (D := G.1) (ci := 5) (v := .int 0) (ty := .int) (C := RX5) (T := TX5) (N := 7) hx hb hts (fun _ h9 => List.mem_cons_of_mem _ (inU_wsX50 _ h9)) tyX5 tyX5_ok nmX5 hown hK.1 hP hD hS 0 rfl rfl 2 (by decide) (hts _ (List.mem_cons_of_mem _ mw45)) (fun _ h9 => h9) rfl (by decide +kernel) rfl rfl (by exact Nat.le_of_ble_eq_true rfl) dX5_init_16 (fun H locs hP hD hS => ?_)
  have hP : va_P G.1 vwCl [(q0, .inr (5, [.int (-1), .int 0, .int 0, .int 0, .null, .null, .null]))] H := hP
  have hD : va_D A [(q0, .inr (5, [.int (-1), .int 0, .int 0, .int 0, .null, .null, .null]))] := hD
  refine lv_aload_n hx hb dX5_init_19 rfl (lv_at hl 0 rfl) ?_
  refine lv_iconst (v := 0) hx hb dX5_init_20 (by decide) ?_
  refine va_put (D := G.1) (ci := 5) (v := .int 0) (ty := .int) (C := RX5) (T := TX5) (N := 7) hx hb hts (fun _ h9 => List.mem_cons_of_mem _ (inU_wsX50 _ h9)) tyX5 tyX5_ok nmX5 hown hK.1 hP hD hS 0 rfl rfl 3 (by decide) (hts _ (List.mem_cons_of_mem _ mw46)) (fun _ h9 => h9) rfl (by decide +kernel) rfl rfl (by exact Nat.le_of_ble_eq_true rfl) dX5_init_21 (fun H locs hP hD hS => ?_)
  have hP : va_P G.1 vwCl [(q0, .inr (5, [.int (-1), .int 0, .int 0, .int 0, .null, .null, .null]))] H := hP
  have hD : va_D A [(q0, .inr (5, [.int (-1), .int 0, .int 0, .int 0, .null, .null, .null]))] := hD
  refine lv_aload_n hx hb dX5_init_24 rfl (lv_at hl 0 rfl) ?_
  refine va_new (ci := 7) (fs := [.int 0, .null, .null, .null, .null, .null, .null, .int 0, .int 0, .int 0]) (C := RX7) (T := TX7) (N := 10) hx hb hts (fun _ h9 => List.mem_cons_of_mem _ (inU_wsX70 _ h9)) tyX7 tyX7_ok hown (hts _ (List.mem_cons_of_mem _ mw47)) (hts _ (List.mem_cons_of_mem _ mw22)) (hts _ (List.mem_cons_of_mem _ mw23)) hK.1 hP hD hS hA rfl (by decide) (Nat.le_of_ble_eq_true rfl) (Nat.le_of_ble_eq_true rfl) dX5_init_25 (fun q1 H hP hD hS => ?_)
  have hP : va_P G.1 vwCl [(q0, .inr (5, [.int (-1), .int 0, .int 0, .int 0, .null, .null, .null])), (q1, .inr (7, [.int 0, .null, .null, .null, .null, .null, .null, .int 0, .int 0, .int 0]))] H := hP
  have hD : va_D A [(q0, .inr (5, [.int (-1), .int 0, .int 0, .int 0, .null, .null, .null])), (q1, .inr (7, [.int 0, .null, .null, .null, .null, .null, .null, .int 0, .int 0, .int 0]))] := hD
  refine lv_dup hx hb dX5_init_28 rfl ?_
  have hPc := hP.sub (ws' := [(q1, .inr (7, [.int 0, .null, .null, .null, .null, .null, .null, .int 0, .int 0, .int 0]))]) [1] rfl
  have hDc := hD.sub (ws' := [(q1, .inr (7, [.int 0, .null, .null, .null, .null, .null, .null, .int 0, .int 0, .int 0]))]) [1] (by decide) rfl
  have hFc := va_free (wc := [(q1, .inr (7, [.int 0, .null, .null, .null, .null, .null, .null, .int 0, .int 0, .int 0]))]) hD hS hA [1] rfl
  refine va_callv (va_runI (As := []) (rest := [.ref q1, .ref q0]) ⟨hx, hb, hml, hown, hts⟩ (i_X7_init l G q1 H.size (fun h9 => h9 = hText) hTextOk) (cwI 0 hts (gU_C mw59) rfl rfl rfl (hts _ (List.mem_cons_of_mem _ mw23)) (hts _ (List.mem_cons_of_mem _ mw57)) (hts _ (List.mem_cons_of_mem _ mw58)) rfl (by decide +kernel) ⟨Nat.le_of_ble_eq_true rfl, Nat.le_of_ble_eq_true rfl⟩) ⟨i_blind, fun U hU hWm => ⟨rfl, by rw [hU], by rw [hU]; exact hPc, kK_moved hWm hK, hDc.weaken (fun _ _ _ _ => trivial)⟩⟩ rfl rfl hl.1 rfl (lv_room (Nat.le_of_ble_eq_true rfl)) dX5_init_29 ⟨Nat.le_of_ble_eq_true rfl, Nat.le_of_ble_eq_true rfl⟩) hS (fun q _ h => hFc q h) hFc (fun u2 t H1 locs ht hvm hw hB hz1 hk1 hS => ?_)
  have hw : u2.2 = hText := hw
  obtain ⟨hP1, hD1, e1⟩ := hB
  rw [hw] at hP1 hD1
  subst e1
  rw [ht] at hP1
  have hP1 : va_P G.1 vwCl [((u2.1 0), cellT G.2.1 u2.1 hText 0), ((u2.1 1), cellT G.2.1 u2.1 hText 1), ((u2.1 2), cellT G.2.1 u2.1 hText 2), ((u2.1 3), cellT G.2.1 u2.1 hText 3), ((u2.1 4), cellT G.2.1 u2.1 hText 4), ((u2.1 5), cellT G.2.1 u2.1 hText 5), ((u2.1 6), cellT G.2.1 u2.1 hText 6), ((u2.1 7), cellT G.2.1 u2.1 hText 7), ((u2.1 8), cellT G.2.1 u2.1 hText 8), ((u2.1 9), cellT G.2.1 u2.1 hText 9), ((u2.1 10), cellT G.2.1 u2.1 hText 10), ((u2.1 11), cellT G.2.1 u2.1 hText 11), ((u2.1 12), cellT G.2.1 u2.1 hText 12), ((u2.1 13), cellT G.2.1 u2.1 hText 13), ((u2.1 14), cellT G.2.1 u2.1 hText 14), ((u2.1 15), cellT G.2.1 u2.1 hText 15), ((u2.1 16), cellT G.2.1 u2.1 hText 16), ((u2.1 17), cellT G.2.1 u2.1 hText 17)] H1 := hP1
  have hD1 : va_D _ [((u2.1 0), cellT G.2.1 u2.1 hText 0), ((u2.1 1), cellT G.2.1 u2.1 hText 1), ((u2.1 2), cellT G.2.1 u2.1 hText 2), ((u2.1 3), cellT G.2.1 u2.1 hText 3), ((u2.1 4), cellT G.2.1 u2.1 hText 4), ((u2.1 5), cellT G.2.1 u2.1 hText 5), ((u2.1 6), cellT G.2.1 u2.1 hText 6), ((u2.1 7), cellT G.2.1 u2.1 hText 7), ((u2.1 8), cellT G.2.1 u2.1 hText 8), ((u2.1 9), cellT G.2.1 u2.1 hText 9), ((u2.1 10), cellT G.2.1 u2.1 hText 10), ((u2.1 11), cellT G.2.1 u2.1 hText 11), ((u2.1 12), cellT G.2.1 u2.1 hText 12), ((u2.1 13), cellT G.2.1 u2.1 hText 13), ((u2.1 14), cellT G.2.1 u2.1 hText 14), ((u2.1 15), cellT G.2.1 u2.1 hText 15), ((u2.1 16), cellT G.2.1 u2.1 hText 16), ((u2.1 17), cellT G.2.1 u2.1 hText 17)] := hD1
  obtain ⟨hP, hD⟩ := va_join (wr := [(q0, .inr (5, [.int (-1), .int 0, .int 0, .int 0, .null, .null, .null]))]) (w1 := [((u2.1 0), cellT G.2.1 u2.1 hText 0), ((u2.1 1), cellT G.2.1 u2.1 hText 1), ((u2.1 2), cellT G.2.1 u2.1 hText 2), ((u2.1 3), cellT G.2.1 u2.1 hText 3), ((u2.1 4), cellT G.2.1 u2.1 hText 4), ((u2.1 5), cellT G.2.1 u2.1 hText 5), ((u2.1 6), cellT G.2.1 u2.1 hText 6), ((u2.1 7), cellT G.2.1 u2.1 hText 7), ((u2.1 8), cellT G.2.1 u2.1 hText 8), ((u2.1 9), cellT G.2.1 u2.1 hText 9), ((u2.1 10), cellT G.2.1 u2.1 hText 10), ((u2.1 11), cellT G.2.1 u2.1 hText 11), ((u2.1 12), cellT G.2.1 u2.1 hText 12), ((u2.1 13), cellT G.2.1 u2.1 hText 13), ((u2.1 14), cellT G.2.1 u2.1 hText 14), ((u2.1 15), cellT G.2.1 u2.1 hText 15), ((u2.1 16), cellT G.2.1 u2.1 hText 16), ((u2.1 17), cellT G.2.1 u2.1 hText 17)]) hP hD [1] [0] rfl rfl (by decide) (by decide) hk1 hFc hP1 hD1
  generalize H1 = H at hP hS ⊢
  have hP : va_P G.1 vwCl [(q0, .inr (5, [.int (-1), .int 0, .int 0, .int 0, .null, .null, .null])), ((u2.1 0), cellT G.2.1 u2.1 hText 0), ((u2.1 1), cellT G.2.1 u2.1 hText 1), ((u2.1 2), cellT G.2.1 u2.1 hText 2), ((u2.1 3), cellT G.2.1 u2.1 hText 3), ((u2.1 4), cellT G.2.1 u2.1 hText 4), ((u2.1 5), cellT G.2.1 u2.1 hText 5), ((u2.1 6), cellT G.2.1 u2.1 hText 6), ((u2.1 7), cellT G.2.1 u2.1 hText 7), ((u2.1 8), cellT G.2.1 u2.1 hText 8), ((u2.1 9), cellT G.2.1 u2.1 hText 9), ((u2.1 10), cellT G.2.1 u2.1 hText 10), ((u2.1 11), cellT G.2.1 u2.1 hText 11), ((u2.1 12), cellT G.2.1 u2.1 hText 12), ((u2.1 13), cellT G.2.1 u2.1 hText 13), ((u2.1 14), cellT G.2.1 u2.1 hText 14), ((u2.1 15), cellT G.2.1 u2.1 hText 15), ((u2.1 16), cellT G.2.1 u2.1 hText 16), ((u2.1 17), cellT G.2.1 u2.1 hText 17)] H := hP
  have hD : va_D A [(q0, .inr (5, [.int (-1), .int 0, .int 0, .int 0, .null, .null, .null])), ((u2.1 0), cellT G.2.1 u2.1 hText 0), ((u2.1 1), cellT G.2.1 u2.1 hText 1), ((u2.1 2), cellT G.2.1 u2.1 hText 2), ((u2.1 3), cellT G.2.1 u2.1 hText 3), ((u2.1 4), cellT G.2.1 u2.1 hText 4), ((u2.1 5), cellT G.2.1 u2.1 hText 5), ((u2.1 6), cellT G.2.1 u2.1 hText 6), ((u2.1 7), cellT G.2.1 u2.1 hText 7), ((u2.1 8), cellT G.2.1 u2.1 hText 8), ((u2.1 9), cellT G.2.1 u2.1 hText 9), ((u2.1 10), cellT G.2.1 u2.1 hText 10), ((u2.1 11), cellT G.2.1 u2.1 hText 11), ((u2.1 12), cellT G.2.1 u2.1 hText 12), ((u2.1 13), cellT G.2.1 u2.1 hText 13), ((u2.1 14), cellT G.2.1 u2.1 hText 14), ((u2.1 15), cellT G.2.1 u2.1 hText 15), ((u2.1 16), cellT G.2.1 u2.1 hText 16), ((u2.1 17), cellT G.2.1 u2.1 hText 17)] := hD
  refine va_put (D := G.1) (ci := 5) (v := .ref (u2.1 0)) (ty := .object "TwoAsks$Text") (C := RX5) (T := TX5) (N := 7) hx hb hts (fun _ h9 => List.mem_cons_of_mem _ (inU_wsX50 _ h9)) tyX5 tyX5_ok nmX5 hown hK.1 hP hD hS 0 rfl rfl 4 (by decide) (hts _ (List.mem_cons_of_mem _ mw48)) (fun _ h9 => h9) rfl (by decide +kernel) rfl rfl (by exact Nat.le_of_ble_eq_true rfl) dX5_init_32 (fun H locs hP hD hS => ?_)
  have hP : va_P G.1 vwCl [(q0, .inr (5, [.int (-1), .int 0, .int 0, .int 0, .ref (u2.1 0), .null, .null])), ((u2.1 0), cellT G.2.1 u2.1 hText 0), ((u2.1 1), cellT G.2.1 u2.1 hText 1), ((u2.1 2), cellT G.2.1 u2.1 hText 2), ((u2.1 3), cellT G.2.1 u2.1 hText 3), ((u2.1 4), cellT G.2.1 u2.1 hText 4), ((u2.1 5), cellT G.2.1 u2.1 hText 5), ((u2.1 6), cellT G.2.1 u2.1 hText 6), ((u2.1 7), cellT G.2.1 u2.1 hText 7), ((u2.1 8), cellT G.2.1 u2.1 hText 8), ((u2.1 9), cellT G.2.1 u2.1 hText 9), ((u2.1 10), cellT G.2.1 u2.1 hText 10), ((u2.1 11), cellT G.2.1 u2.1 hText 11), ((u2.1 12), cellT G.2.1 u2.1 hText 12), ((u2.1 13), cellT G.2.1 u2.1 hText 13), ((u2.1 14), cellT G.2.1 u2.1 hText 14), ((u2.1 15), cellT G.2.1 u2.1 hText 15), ((u2.1 16), cellT G.2.1 u2.1 hText 16), ((u2.1 17), cellT G.2.1 u2.1 hText 17)] H := hP
  have hD : va_D A [(q0, .inr (5, [.int (-1), .int 0, .int 0, .int 0, .ref (u2.1 0), .null, .null])), ((u2.1 0), cellT G.2.1 u2.1 hText 0), ((u2.1 1), cellT G.2.1 u2.1 hText 1), ((u2.1 2), cellT G.2.1 u2.1 hText 2), ((u2.1 3), cellT G.2.1 u2.1 hText 3), ((u2.1 4), cellT G.2.1 u2.1 hText 4), ((u2.1 5), cellT G.2.1 u2.1 hText 5), ((u2.1 6), cellT G.2.1 u2.1 hText 6), ((u2.1 7), cellT G.2.1 u2.1 hText 7), ((u2.1 8), cellT G.2.1 u2.1 hText 8), ((u2.1 9), cellT G.2.1 u2.1 hText 9), ((u2.1 10), cellT G.2.1 u2.1 hText 10), ((u2.1 11), cellT G.2.1 u2.1 hText 11), ((u2.1 12), cellT G.2.1 u2.1 hText 12), ((u2.1 13), cellT G.2.1 u2.1 hText 13), ((u2.1 14), cellT G.2.1 u2.1 hText 14), ((u2.1 15), cellT G.2.1 u2.1 hText 15), ((u2.1 16), cellT G.2.1 u2.1 hText 16), ((u2.1 17), cellT G.2.1 u2.1 hText 17)] := hD
  refine lv_aload_n hx hb dX5_init_35 rfl (lv_at hl 0 rfl) ?_
  refine va_new (ci := 8) (fs := [.null, .null, .null, .null, .int 0]) (C := RX8) (T := TX8) (N := 5) hx hb hts (fun _ h9 => List.mem_cons_of_mem _ (inU_wsX80 _ h9)) tyX8 tyX8_ok hown (hts _ (List.mem_cons_of_mem _ mw49)) (hts _ (List.mem_cons_of_mem _ mw50)) (hts _ (List.mem_cons_of_mem _ mw51)) hK.1 hP hD hS hA rfl (by decide) (Nat.le_of_ble_eq_true rfl) (Nat.le_of_ble_eq_true rfl) dX5_init_36 (fun q3 H hP hD hS => ?_)
  have hP : va_P G.1 vwCl [(q0, .inr (5, [.int (-1), .int 0, .int 0, .int 0, .ref (u2.1 0), .null, .null])), ((u2.1 0), cellT G.2.1 u2.1 hText 0), ((u2.1 1), cellT G.2.1 u2.1 hText 1), ((u2.1 2), cellT G.2.1 u2.1 hText 2), ((u2.1 3), cellT G.2.1 u2.1 hText 3), ((u2.1 4), cellT G.2.1 u2.1 hText 4), ((u2.1 5), cellT G.2.1 u2.1 hText 5), ((u2.1 6), cellT G.2.1 u2.1 hText 6), ((u2.1 7), cellT G.2.1 u2.1 hText 7), ((u2.1 8), cellT G.2.1 u2.1 hText 8), ((u2.1 9), cellT G.2.1 u2.1 hText 9), ((u2.1 10), cellT G.2.1 u2.1 hText 10), ((u2.1 11), cellT G.2.1 u2.1 hText 11), ((u2.1 12), cellT G.2.1 u2.1 hText 12), ((u2.1 13), cellT G.2.1 u2.1 hText 13), ((u2.1 14), cellT G.2.1 u2.1 hText 14), ((u2.1 15), cellT G.2.1 u2.1 hText 15), ((u2.1 16), cellT G.2.1 u2.1 hText 16), ((u2.1 17), cellT G.2.1 u2.1 hText 17), (q3, .inr (8, [.null, .null, .null, .null, .int 0]))] H := hP
  have hD : va_D A [(q0, .inr (5, [.int (-1), .int 0, .int 0, .int 0, .ref (u2.1 0), .null, .null])), ((u2.1 0), cellT G.2.1 u2.1 hText 0), ((u2.1 1), cellT G.2.1 u2.1 hText 1), ((u2.1 2), cellT G.2.1 u2.1 hText 2), ((u2.1 3), cellT G.2.1 u2.1 hText 3), ((u2.1 4), cellT G.2.1 u2.1 hText 4), ((u2.1 5), cellT G.2.1 u2.1 hText 5), ((u2.1 6), cellT G.2.1 u2.1 hText 6), ((u2.1 7), cellT G.2.1 u2.1 hText 7), ((u2.1 8), cellT G.2.1 u2.1 hText 8), ((u2.1 9), cellT G.2.1 u2.1 hText 9), ((u2.1 10), cellT G.2.1 u2.1 hText 10), ((u2.1 11), cellT G.2.1 u2.1 hText 11), ((u2.1 12), cellT G.2.1 u2.1 hText 12), ((u2.1 13), cellT G.2.1 u2.1 hText 13), ((u2.1 14), cellT G.2.1 u2.1 hText 14), ((u2.1 15), cellT G.2.1 u2.1 hText 15), ((u2.1 16), cellT G.2.1 u2.1 hText 16), ((u2.1 17), cellT G.2.1 u2.1 hText 17), (q3, .inr (8, [.null, .null, .null, .null, .int 0]))] := hD
  refine lv_dup hx hb dX5_init_39 rfl ?_
  have hPc := hP.sub (ws' := [(q3, .inr (8, [.null, .null, .null, .null, .int 0]))]) [19] rfl
  have hDc := hD.sub (ws' := [(q3, .inr (8, [.null, .null, .null, .null, .int 0]))]) [19] (by decide) rfl
  have hFc := va_free (wc := [(q3, .inr (8, [.null, .null, .null, .null, .int 0]))]) hD hS hA [19] rfl
  refine va_callv (va_runI (As := []) (rest := [.ref q3, .ref q0]) ⟨hx, hb, hml, hown, hts⟩ (i_X8_init l G q3 H.size lo adK adV) (cwI 0 hts (gU_C mw128) rfl rfl rfl (hts _ (List.mem_cons_of_mem _ mw51)) (hts _ (List.mem_cons_of_mem _ mw126)) (hts _ (List.mem_cons_of_mem _ mw127)) rfl (by decide +kernel) ⟨Nat.le_of_ble_eq_true rfl, Nat.le_of_ble_eq_true rfl⟩) ⟨i_blindS, fun U hU hWm => ⟨rfl, by rw [hU], by rw [hU]; exact hPc, kK_moved hWm hK, hDc.weaken (fun _ _ _ _ => trivial), by rw [hU]; exact kStr_warm hWm (kStr_kept hStr (fun a ha hn => hS.2.1 a ha (fun h => hn (hAlo a h)))), hAlo _ (hDc.2 0 _ rfl), Nat.le_trans hls hS.1⟩⟩ rfl rfl hl.1 rfl (lv_room (Nat.le_of_ble_eq_true rfl)) dX5_init_40 ⟨Nat.le_of_ble_eq_true rfl, Nat.le_of_ble_eq_true rfl⟩) hS (fun q _ h => hFc q h) hFc (fun u4 t H1 locs ht hvm hw hB hz1 hk1 hS => ?_)
  obtain ⟨hP1, hD1⟩ := hB
  rw [ht] at hP1
  have hP1 : va_P G.1 vwCl [(q3, .inr (8, [.ref (u4 1), .ref (u4 2), .ref (u4 3), .ref (u4 4), .int 0])), ((u4 1), .inl (G.2.1 14, 402, .inl (fun _ => 0))), ((u4 2), .inl (G.2.1 14, 402, .inl (fun _ => 0))), ((u4 3), .inl (G.2.1 15, 402, .inr (.inl (fun _ => 0)))), ((u4 4), .inl (G.2.1 15, 17, .inr (.inl wTok)))] H1 := hP1
  have hD1 : va_D _ [(q3, .inr (8, [.ref (u4 1), .ref (u4 2), .ref (u4 3), .ref (u4 4), .int 0])), ((u4 1), .inl (G.2.1 14, 402, .inl (fun _ => 0))), ((u4 2), .inl (G.2.1 14, 402, .inl (fun _ => 0))), ((u4 3), .inl (G.2.1 15, 402, .inr (.inl (fun _ => 0)))), ((u4 4), .inl (G.2.1 15, 17, .inr (.inl wTok)))] := hD1
  obtain ⟨hP, hD⟩ := va_join (wr := [(q0, .inr (5, [.int (-1), .int 0, .int 0, .int 0, .ref (u2.1 0), .null, .null])), ((u2.1 0), cellT G.2.1 u2.1 hText 0), ((u2.1 1), cellT G.2.1 u2.1 hText 1), ((u2.1 2), cellT G.2.1 u2.1 hText 2), ((u2.1 3), cellT G.2.1 u2.1 hText 3), ((u2.1 4), cellT G.2.1 u2.1 hText 4), ((u2.1 5), cellT G.2.1 u2.1 hText 5), ((u2.1 6), cellT G.2.1 u2.1 hText 6), ((u2.1 7), cellT G.2.1 u2.1 hText 7), ((u2.1 8), cellT G.2.1 u2.1 hText 8), ((u2.1 9), cellT G.2.1 u2.1 hText 9), ((u2.1 10), cellT G.2.1 u2.1 hText 10), ((u2.1 11), cellT G.2.1 u2.1 hText 11), ((u2.1 12), cellT G.2.1 u2.1 hText 12), ((u2.1 13), cellT G.2.1 u2.1 hText 13), ((u2.1 14), cellT G.2.1 u2.1 hText 14), ((u2.1 15), cellT G.2.1 u2.1 hText 15), ((u2.1 16), cellT G.2.1 u2.1 hText 16), ((u2.1 17), cellT G.2.1 u2.1 hText 17)]) (w1 := [(q3, .inr (8, [.ref (u4 1), .ref (u4 2), .ref (u4 3), .ref (u4 4), .int 0])), ((u4 1), .inl (G.2.1 14, 402, .inl (fun _ => 0))), ((u4 2), .inl (G.2.1 14, 402, .inl (fun _ => 0))), ((u4 3), .inl (G.2.1 15, 402, .inr (.inl (fun _ => 0)))), ((u4 4), .inl (G.2.1 15, 17, .inr (.inl wTok)))]) hP hD [19] [0, 1, 2, 3, 4, 5, 6, 7, 8, 9, 10, 11, 12, 13, 14, 15, 16, 17, 18] rfl rfl (by decide) (by decide) hk1 hFc hP1 hD1
  generalize H1 = H at hP hS ⊢
  have hP : va_P G.1 vwCl [(q0, .inr (5, [.int (-1), .int 0, .int 0, .int 0, .ref (u2.1 0), .null, .null])), ((u2.1 0), cellT G.2.1 u2.1 hText 0), ((u2.1 1), cellT G.2.1 u2.1 hText 1), ((u2.1 2), cellT G.2.1 u2.1 hText 2), ((u2.1 3), cellT G.2.1 u2.1 hText 3), ((u2.1 4), cellT G.2.1 u2.1 hText 4), ((u2.1 5), cellT G.2.1 u2.1 hText 5), ((u2.1 6), cellT G.2.1 u2.1 hText 6), ((u2.1 7), cellT G.2.1 u2.1 hText 7), ((u2.1 8), cellT G.2.1 u2.1 hText 8), ((u2.1 9), cellT G.2.1 u2.1 hText 9), ((u2.1 10), cellT G.2.1 u2.1 hText 10), ((u2.1 11), cellT G.2.1 u2.1 hText 11), ((u2.1 12), cellT G.2.1 u2.1 hText 12), ((u2.1 13), cellT G.2.1 u2.1 hText 13), ((u2.1 14), cellT G.2.1 u2.1 hText 14), ((u2.1 15), cellT G.2.1 u2.1 hText 15), ((u2.1 16), cellT G.2.1 u2.1 hText 16), ((u2.1 17), cellT G.2.1 u2.1 hText 17), (q3, .inr (8, [.ref (u4 1), .ref (u4 2), .ref (u4 3), .ref (u4 4), .int 0])), ((u4 1), .inl (G.2.1 14, 402, .inl (fun _ => 0))), ((u4 2), .inl (G.2.1 14, 402, .inl (fun _ => 0))), ((u4 3), .inl (G.2.1 15, 402, .inr (.inl (fun _ => 0)))), ((u4 4), .inl (G.2.1 15, 17, .inr (.inl wTok)))] H := hP
  have hD : va_D A [(q0, .inr (5, [.int (-1), .int 0, .int 0, .int 0, .ref (u2.1 0), .null, .null])), ((u2.1 0), cellT G.2.1 u2.1 hText 0), ((u2.1 1), cellT G.2.1 u2.1 hText 1), ((u2.1 2), cellT G.2.1 u2.1 hText 2), ((u2.1 3), cellT G.2.1 u2.1 hText 3), ((u2.1 4), cellT G.2.1 u2.1 hText 4), ((u2.1 5), cellT G.2.1 u2.1 hText 5), ((u2.1 6), cellT G.2.1 u2.1 hText 6), ((u2.1 7), cellT G.2.1 u2.1 hText 7), ((u2.1 8), cellT G.2.1 u2.1 hText 8), ((u2.1 9), cellT G.2.1 u2.1 hText 9), ((u2.1 10), cellT G.2.1 u2.1 hText 10), ((u2.1 11), cellT G.2.1 u2.1 hText 11), ((u2.1 12), cellT G.2.1 u2.1 hText 12), ((u2.1 13), cellT G.2.1 u2.1 hText 13), ((u2.1 14), cellT G.2.1 u2.1 hText 14), ((u2.1 15), cellT G.2.1 u2.1 hText 15), ((u2.1 16), cellT G.2.1 u2.1 hText 16), ((u2.1 17), cellT G.2.1 u2.1 hText 17), (q3, .inr (8, [.ref (u4 1), .ref (u4 2), .ref (u4 3), .ref (u4 4), .int 0])), ((u4 1), .inl (G.2.1 14, 402, .inl (fun _ => 0))), ((u4 2), .inl (G.2.1 14, 402, .inl (fun _ => 0))), ((u4 3), .inl (G.2.1 15, 402, .inr (.inl (fun _ => 0)))), ((u4 4), .inl (G.2.1 15, 17, .inr (.inl wTok)))] := hD
  refine va_putF (D := G.1) (ci := 5) (v := .ref q3) (ty := .object "TwoAsks$Tokens") (C := RX5) (T := TX5) (N := 7) hx hb hts (fun _ h9 => List.mem_cons_of_mem _ (inU_wsX50 _ h9)) tyX5 tyX5_ok nmX5 hown hK.1 hP hD hS 0 rfl rfl 5 (by decide) (hts _ (List.mem_cons_of_mem _ mw52)) (fun _ h9 => h9) rfl hin rfl (by decide +kernel) rfl rfl (by exact Nat.le_of_ble_eq_true rfl) dX5_init_43 (fun H locs hP hD hS => ?_)
  have hP : va_P G.1 vwCl [(q0, .inr (5, [.int (-1), .int 0, .int 0, .int 0, .ref (u2.1 0), .ref q3, .null])), ((u2.1 0), cellT G.2.1 u2.1 hText 0), ((u2.1 1), cellT G.2.1 u2.1 hText 1), ((u2.1 2), cellT G.2.1 u2.1 hText 2), ((u2.1 3), cellT G.2.1 u2.1 hText 3), ((u2.1 4), cellT G.2.1 u2.1 hText 4), ((u2.1 5), cellT G.2.1 u2.1 hText 5), ((u2.1 6), cellT G.2.1 u2.1 hText 6), ((u2.1 7), cellT G.2.1 u2.1 hText 7), ((u2.1 8), cellT G.2.1 u2.1 hText 8), ((u2.1 9), cellT G.2.1 u2.1 hText 9), ((u2.1 10), cellT G.2.1 u2.1 hText 10), ((u2.1 11), cellT G.2.1 u2.1 hText 11), ((u2.1 12), cellT G.2.1 u2.1 hText 12), ((u2.1 13), cellT G.2.1 u2.1 hText 13), ((u2.1 14), cellT G.2.1 u2.1 hText 14), ((u2.1 15), cellT G.2.1 u2.1 hText 15), ((u2.1 16), cellT G.2.1 u2.1 hText 16), ((u2.1 17), cellT G.2.1 u2.1 hText 17), (q3, .inr (8, [.ref (u4 1), .ref (u4 2), .ref (u4 3), .ref (u4 4), .int 0])), ((u4 1), .inl (G.2.1 14, 402, .inl (fun _ => 0))), ((u4 2), .inl (G.2.1 14, 402, .inl (fun _ => 0))), ((u4 3), .inl (G.2.1 15, 402, .inr (.inl (fun _ => 0)))), ((u4 4), .inl (G.2.1 15, 17, .inr (.inl wTok)))] H := hP
  have hD : va_D A [(q0, .inr (5, [.int (-1), .int 0, .int 0, .int 0, .ref (u2.1 0), .ref q3, .null])), ((u2.1 0), cellT G.2.1 u2.1 hText 0), ((u2.1 1), cellT G.2.1 u2.1 hText 1), ((u2.1 2), cellT G.2.1 u2.1 hText 2), ((u2.1 3), cellT G.2.1 u2.1 hText 3), ((u2.1 4), cellT G.2.1 u2.1 hText 4), ((u2.1 5), cellT G.2.1 u2.1 hText 5), ((u2.1 6), cellT G.2.1 u2.1 hText 6), ((u2.1 7), cellT G.2.1 u2.1 hText 7), ((u2.1 8), cellT G.2.1 u2.1 hText 8), ((u2.1 9), cellT G.2.1 u2.1 hText 9), ((u2.1 10), cellT G.2.1 u2.1 hText 10), ((u2.1 11), cellT G.2.1 u2.1 hText 11), ((u2.1 12), cellT G.2.1 u2.1 hText 12), ((u2.1 13), cellT G.2.1 u2.1 hText 13), ((u2.1 14), cellT G.2.1 u2.1 hText 14), ((u2.1 15), cellT G.2.1 u2.1 hText 15), ((u2.1 16), cellT G.2.1 u2.1 hText 16), ((u2.1 17), cellT G.2.1 u2.1 hText 17), (q3, .inr (8, [.ref (u4 1), .ref (u4 2), .ref (u4 3), .ref (u4 4), .int 0])), ((u4 1), .inl (G.2.1 14, 402, .inl (fun _ => 0))), ((u4 2), .inl (G.2.1 14, 402, .inl (fun _ => 0))), ((u4 3), .inl (G.2.1 15, 402, .inr (.inl (fun _ => 0)))), ((u4 4), .inl (G.2.1 15, 17, .inr (.inl wTok)))] := hD
  refine lv_aload_n hx hb dX5_init_46 rfl (lv_at hl 0 rfl) ?_
  refine va_new (ci := 3) (fs := [.null, .int 0, .int 0, .int 0, .int 0, .int 0, .int 0, .int 0, .null, .int 0]) (C := RX3) (T := TX3) (N := 10) hx hb hts (fun _ h9 => List.mem_cons_of_mem _ (inU_wsX30 _ h9)) tyX3 tyX3_ok hown (hts _ (List.mem_cons_of_mem _ mw53)) (hts _ (List.mem_cons_of_mem _ mw54)) (hts _ (List.mem_cons_of_mem _ mw55)) hK.1 hP hD hS hA rfl (by decide) (Nat.le_of_ble_eq_true rfl) (Nat.le_of_ble_eq_true rfl) dX5_init_47 (fun q5 H hP hD hS => ?_)
  have hP : va_P G.1 vwCl [(q0, .inr (5, [.int (-1), .int 0, .int 0, .int 0, .ref (u2.1 0), .ref q3, .null])), ((u2.1 0), cellT G.2.1 u2.1 hText 0), ((u2.1 1), cellT G.2.1 u2.1 hText 1), ((u2.1 2), cellT G.2.1 u2.1 hText 2), ((u2.1 3), cellT G.2.1 u2.1 hText 3), ((u2.1 4), cellT G.2.1 u2.1 hText 4), ((u2.1 5), cellT G.2.1 u2.1 hText 5), ((u2.1 6), cellT G.2.1 u2.1 hText 6), ((u2.1 7), cellT G.2.1 u2.1 hText 7), ((u2.1 8), cellT G.2.1 u2.1 hText 8), ((u2.1 9), cellT G.2.1 u2.1 hText 9), ((u2.1 10), cellT G.2.1 u2.1 hText 10), ((u2.1 11), cellT G.2.1 u2.1 hText 11), ((u2.1 12), cellT G.2.1 u2.1 hText 12), ((u2.1 13), cellT G.2.1 u2.1 hText 13), ((u2.1 14), cellT G.2.1 u2.1 hText 14), ((u2.1 15), cellT G.2.1 u2.1 hText 15), ((u2.1 16), cellT G.2.1 u2.1 hText 16), ((u2.1 17), cellT G.2.1 u2.1 hText 17), (q3, .inr (8, [.ref (u4 1), .ref (u4 2), .ref (u4 3), .ref (u4 4), .int 0])), ((u4 1), .inl (G.2.1 14, 402, .inl (fun _ => 0))), ((u4 2), .inl (G.2.1 14, 402, .inl (fun _ => 0))), ((u4 3), .inl (G.2.1 15, 402, .inr (.inl (fun _ => 0)))), ((u4 4), .inl (G.2.1 15, 17, .inr (.inl wTok))), (q5, .inr (3, [.null, .int 0, .int 0, .int 0, .int 0, .int 0, .int 0, .int 0, .null, .int 0]))] H := hP
  have hD : va_D A [(q0, .inr (5, [.int (-1), .int 0, .int 0, .int 0, .ref (u2.1 0), .ref q3, .null])), ((u2.1 0), cellT G.2.1 u2.1 hText 0), ((u2.1 1), cellT G.2.1 u2.1 hText 1), ((u2.1 2), cellT G.2.1 u2.1 hText 2), ((u2.1 3), cellT G.2.1 u2.1 hText 3), ((u2.1 4), cellT G.2.1 u2.1 hText 4), ((u2.1 5), cellT G.2.1 u2.1 hText 5), ((u2.1 6), cellT G.2.1 u2.1 hText 6), ((u2.1 7), cellT G.2.1 u2.1 hText 7), ((u2.1 8), cellT G.2.1 u2.1 hText 8), ((u2.1 9), cellT G.2.1 u2.1 hText 9), ((u2.1 10), cellT G.2.1 u2.1 hText 10), ((u2.1 11), cellT G.2.1 u2.1 hText 11), ((u2.1 12), cellT G.2.1 u2.1 hText 12), ((u2.1 13), cellT G.2.1 u2.1 hText 13), ((u2.1 14), cellT G.2.1 u2.1 hText 14), ((u2.1 15), cellT G.2.1 u2.1 hText 15), ((u2.1 16), cellT G.2.1 u2.1 hText 16), ((u2.1 17), cellT G.2.1 u2.1 hText 17), (q3, .inr (8, [.ref (u4 1), .ref (u4 2), .ref (u4 3), .ref (u4 4), .int 0])), ((u4 1), .inl (G.2.1 14, 402, .inl (fun _ => 0))), ((u4 2), .inl (G.2.1 14, 402, .inl (fun _ => 0))), ((u4 3), .inl (G.2.1 15, 402, .inr (.inl (fun _ => 0)))), ((u4 4), .inl (G.2.1 15, 17, .inr (.inl wTok))), (q5, .inr (3, [.null, .int 0, .int 0, .int 0, .int 0, .int 0, .int 0, .int 0, .null, .int 0]))] := hD
  refine lv_dup hx hb dX5_init_50 rfl ?_
  have hPc := hP.sub (ws' := [(q5, .inr (3, [.null, .int 0, .int 0, .int 0, .int 0, .int 0, .int 0, .int 0, .null, .int 0]))]) [24] rfl
  have hDc := hD.sub (ws' := [(q5, .inr (3, [.null, .int 0, .int 0, .int 0, .int 0, .int 0, .int 0, .int 0, .null, .int 0]))]) [24] (by decide) rfl
  have hFc := va_free (wc := [(q5, .inr (3, [.null, .int 0, .int 0, .int 0, .int 0, .int 0, .int 0, .int 0, .null, .int 0]))]) hD hS hA [24] rfl
  refine va_callv (va_runIN (As := []) (rest := [.ref q5, .ref q0]) ⟨hx, hb, hml, hown, hts⟩ (i_X3_init l G q5 H.size) ⟨va_cnB 0 hts (gU_C mw192) rfl rfl rfl (hK.2.1 _ (List.mem_of_getElem? (i := 5) rfl)) (hts _ (List.mem_cons_of_mem _ mw55)) (by decide +kernel) ⟨Nat.le_of_ble_eq_true rfl, Nat.le_of_ble_eq_true rfl⟩, rfl, (hts _ (List.mem_cons_of_mem _ mw191))⟩ ⟨i_blind, fun U hU hWm => ⟨rfl, by rw [hU], by rw [hU]; exact hPc, kK_moved hWm hK, hDc.weaken (fun _ _ _ _ => trivial)⟩⟩ rfl rfl hl.1 rfl (lv_room (Nat.le_of_ble_eq_true rfl)) dX5_init_51 ⟨Nat.le_of_ble_eq_true rfl, Nat.le_of_ble_eq_true rfl⟩) hS (fun q _ h => hFc q h) hFc (fun u6 t H1 locs ht hvm hw hB hz1 hk1 hS => ?_)
  obtain ⟨hP1, hD1⟩ := hB
  rw [ht] at hP1
  have hP1 : va_P G.1 vwCl [(q5, .inr (3, [.ref (u6 1), .int 1, .int 1, .int 1, .int 59, .int 0, .int 0, .int 0, .ref (u6 6), .int 0])), ((u6 1), .inr (2, [.ref (u6 2), .ref (u6 3), .int 0, .ref (u6 4), .ref (u6 5)])), ((u6 2), .inl (G.2.1 14, 402, .inl (fun _ => 0))), ((u6 3), .inl (G.2.1 14, 402, .inl (fun _ => 0))), ((u6 4), .inl (G.2.1 14, 6, .inl (fun _ => 0))), ((u6 5), .inl (G.2.1 14, 42, .inl (fun _ => 0))), ((u6 6), .inl (G.2.1 14, 21, .inl (fun _ => 0)))] H1 := hP1
  have hD1 : va_D _ [(q5, .inr (3, [.ref (u6 1), .int 1, .int 1, .int 1, .int 59, .int 0, .int 0, .int 0, .ref (u6 6), .int 0])), ((u6 1), .inr (2, [.ref (u6 2), .ref (u6 3), .int 0, .ref (u6 4), .ref (u6 5)])), ((u6 2), .inl (G.2.1 14, 402, .inl (fun _ => 0))), ((u6 3), .inl (G.2.1 14, 402, .inl (fun _ => 0))), ((u6 4), .inl (G.2.1 14, 6, .inl (fun _ => 0))), ((u6 5), .inl (G.2.1 14, 42, .inl (fun _ => 0))), ((u6 6), .inl (G.2.1 14, 21, .inl (fun _ => 0)))] := hD1
  obtain ⟨hP, hD⟩ := va_join (wr := [(q0, .inr (5, [.int (-1), .int 0, .int 0, .int 0, .ref (u2.1 0), .ref q3, .null])), ((u2.1 0), cellT G.2.1 u2.1 hText 0), ((u2.1 1), cellT G.2.1 u2.1 hText 1), ((u2.1 2), cellT G.2.1 u2.1 hText 2), ((u2.1 3), cellT G.2.1 u2.1 hText 3), ((u2.1 4), cellT G.2.1 u2.1 hText 4), ((u2.1 5), cellT G.2.1 u2.1 hText 5), ((u2.1 6), cellT G.2.1 u2.1 hText 6), ((u2.1 7), cellT G.2.1 u2.1 hText 7), ((u2.1 8), cellT G.2.1 u2.1 hText 8), ((u2.1 9), cellT G.2.1 u2.1 hText 9), ((u2.1 10), cellT G.2.1 u2.1 hText 10), ((u2.1 11), cellT G.2.1 u2.1 hText 11), ((u2.1 12), cellT G.2.1 u2.1 hText 12), ((u2.1 13), cellT G.2.1 u2.1 hText 13), ((u2.1 14), cellT G.2.1 u2.1 hText 14), ((u2.1 15), cellT G.2.1 u2.1 hText 15), ((u2.1 16), cellT G.2.1 u2.1 hText 16), ((u2.1 17), cellT G.2.1 u2.1 hText 17), (q3, .inr (8, [.ref (u4 1), .ref (u4 2), .ref (u4 3), .ref (u4 4), .int 0])), ((u4 1), .inl (G.2.1 14, 402, .inl (fun _ => 0))), ((u4 2), .inl (G.2.1 14, 402, .inl (fun _ => 0))), ((u4 3), .inl (G.2.1 15, 402, .inr (.inl (fun _ => 0)))), ((u4 4), .inl (G.2.1 15, 17, .inr (.inl wTok)))]) (w1 := [(q5, .inr (3, [.ref (u6 1), .int 1, .int 1, .int 1, .int 59, .int 0, .int 0, .int 0, .ref (u6 6), .int 0])), ((u6 1), .inr (2, [.ref (u6 2), .ref (u6 3), .int 0, .ref (u6 4), .ref (u6 5)])), ((u6 2), .inl (G.2.1 14, 402, .inl (fun _ => 0))), ((u6 3), .inl (G.2.1 14, 402, .inl (fun _ => 0))), ((u6 4), .inl (G.2.1 14, 6, .inl (fun _ => 0))), ((u6 5), .inl (G.2.1 14, 42, .inl (fun _ => 0))), ((u6 6), .inl (G.2.1 14, 21, .inl (fun _ => 0)))]) hP hD [24] [0, 1, 2, 3, 4, 5, 6, 7, 8, 9, 10, 11, 12, 13, 14, 15, 16, 17, 18, 19, 20, 21, 22, 23] rfl rfl (by decide) (by decide) hk1 hFc hP1 hD1
  generalize H1 = H at hP hS ⊢
  have hP : va_P G.1 vwCl [(q0, .inr (5, [.int (-1), .int 0, .int 0, .int 0, .ref (u2.1 0), .ref q3, .null])), ((u2.1 0), cellT G.2.1 u2.1 hText 0), ((u2.1 1), cellT G.2.1 u2.1 hText 1), ((u2.1 2), cellT G.2.1 u2.1 hText 2), ((u2.1 3), cellT G.2.1 u2.1 hText 3), ((u2.1 4), cellT G.2.1 u2.1 hText 4), ((u2.1 5), cellT G.2.1 u2.1 hText 5), ((u2.1 6), cellT G.2.1 u2.1 hText 6), ((u2.1 7), cellT G.2.1 u2.1 hText 7), ((u2.1 8), cellT G.2.1 u2.1 hText 8), ((u2.1 9), cellT G.2.1 u2.1 hText 9), ((u2.1 10), cellT G.2.1 u2.1 hText 10), ((u2.1 11), cellT G.2.1 u2.1 hText 11), ((u2.1 12), cellT G.2.1 u2.1 hText 12), ((u2.1 13), cellT G.2.1 u2.1 hText 13), ((u2.1 14), cellT G.2.1 u2.1 hText 14), ((u2.1 15), cellT G.2.1 u2.1 hText 15), ((u2.1 16), cellT G.2.1 u2.1 hText 16), ((u2.1 17), cellT G.2.1 u2.1 hText 17), (q3, .inr (8, [.ref (u4 1), .ref (u4 2), .ref (u4 3), .ref (u4 4), .int 0])), ((u4 1), .inl (G.2.1 14, 402, .inl (fun _ => 0))), ((u4 2), .inl (G.2.1 14, 402, .inl (fun _ => 0))), ((u4 3), .inl (G.2.1 15, 402, .inr (.inl (fun _ => 0)))), ((u4 4), .inl (G.2.1 15, 17, .inr (.inl wTok))), (q5, .inr (3, [.ref (u6 1), .int 1, .int 1, .int 1, .int 59, .int 0, .int 0, .int 0, .ref (u6 6), .int 0])), ((u6 1), .inr (2, [.ref (u6 2), .ref (u6 3), .int 0, .ref (u6 4), .ref (u6 5)])), ((u6 2), .inl (G.2.1 14, 402, .inl (fun _ => 0))), ((u6 3), .inl (G.2.1 14, 402, .inl (fun _ => 0))), ((u6 4), .inl (G.2.1 14, 6, .inl (fun _ => 0))), ((u6 5), .inl (G.2.1 14, 42, .inl (fun _ => 0))), ((u6 6), .inl (G.2.1 14, 21, .inl (fun _ => 0)))] H := hP
  have hD : va_D A [(q0, .inr (5, [.int (-1), .int 0, .int 0, .int 0, .ref (u2.1 0), .ref q3, .null])), ((u2.1 0), cellT G.2.1 u2.1 hText 0), ((u2.1 1), cellT G.2.1 u2.1 hText 1), ((u2.1 2), cellT G.2.1 u2.1 hText 2), ((u2.1 3), cellT G.2.1 u2.1 hText 3), ((u2.1 4), cellT G.2.1 u2.1 hText 4), ((u2.1 5), cellT G.2.1 u2.1 hText 5), ((u2.1 6), cellT G.2.1 u2.1 hText 6), ((u2.1 7), cellT G.2.1 u2.1 hText 7), ((u2.1 8), cellT G.2.1 u2.1 hText 8), ((u2.1 9), cellT G.2.1 u2.1 hText 9), ((u2.1 10), cellT G.2.1 u2.1 hText 10), ((u2.1 11), cellT G.2.1 u2.1 hText 11), ((u2.1 12), cellT G.2.1 u2.1 hText 12), ((u2.1 13), cellT G.2.1 u2.1 hText 13), ((u2.1 14), cellT G.2.1 u2.1 hText 14), ((u2.1 15), cellT G.2.1 u2.1 hText 15), ((u2.1 16), cellT G.2.1 u2.1 hText 16), ((u2.1 17), cellT G.2.1 u2.1 hText 17), (q3, .inr (8, [.ref (u4 1), .ref (u4 2), .ref (u4 3), .ref (u4 4), .int 0])), ((u4 1), .inl (G.2.1 14, 402, .inl (fun _ => 0))), ((u4 2), .inl (G.2.1 14, 402, .inl (fun _ => 0))), ((u4 3), .inl (G.2.1 15, 402, .inr (.inl (fun _ => 0)))), ((u4 4), .inl (G.2.1 15, 17, .inr (.inl wTok))), (q5, .inr (3, [.ref (u6 1), .int 1, .int 1, .int 1, .int 59, .int 0, .int 0, .int 0, .ref (u6 6), .int 0])), ((u6 1), .inr (2, [.ref (u6 2), .ref (u6 3), .int 0, .ref (u6 4), .ref (u6 5)])), ((u6 2), .inl (G.2.1 14, 402, .inl (fun _ => 0))), ((u6 3), .inl (G.2.1 14, 402, .inl (fun _ => 0))), ((u6 4), .inl (G.2.1 14, 6, .inl (fun _ => 0))), ((u6 5), .inl (G.2.1 14, 42, .inl (fun _ => 0))), ((u6 6), .inl (G.2.1 14, 21, .inl (fun _ => 0)))] := hD
  refine va_putF (D := G.1) (ci := 5) (v := .ref q5) (ty := .object "TwoAsks$LawReader") (C := RX5) (T := TX5) (N := 7) hx hb hts (fun _ h9 => List.mem_cons_of_mem _ (inU_wsX50 _ h9)) tyX5 tyX5_ok nmX5 hown hK.1 hP hD hS 0 rfl rfl 6 (by decide) (hts _ (List.mem_cons_of_mem _ mw56)) (fun _ h9 => h9) rfl hin rfl (by decide +kernel) rfl rfl (by exact Nat.le_of_ble_eq_true rfl) dX5_init_54 (fun H locs hP hD hS => ?_)
  have hP : va_P G.1 vwCl [(q0, .inr (5, [.int (-1), .int 0, .int 0, .int 0, .ref (u2.1 0), .ref q3, .ref q5])), ((u2.1 0), cellT G.2.1 u2.1 hText 0), ((u2.1 1), cellT G.2.1 u2.1 hText 1), ((u2.1 2), cellT G.2.1 u2.1 hText 2), ((u2.1 3), cellT G.2.1 u2.1 hText 3), ((u2.1 4), cellT G.2.1 u2.1 hText 4), ((u2.1 5), cellT G.2.1 u2.1 hText 5), ((u2.1 6), cellT G.2.1 u2.1 hText 6), ((u2.1 7), cellT G.2.1 u2.1 hText 7), ((u2.1 8), cellT G.2.1 u2.1 hText 8), ((u2.1 9), cellT G.2.1 u2.1 hText 9), ((u2.1 10), cellT G.2.1 u2.1 hText 10), ((u2.1 11), cellT G.2.1 u2.1 hText 11), ((u2.1 12), cellT G.2.1 u2.1 hText 12), ((u2.1 13), cellT G.2.1 u2.1 hText 13), ((u2.1 14), cellT G.2.1 u2.1 hText 14), ((u2.1 15), cellT G.2.1 u2.1 hText 15), ((u2.1 16), cellT G.2.1 u2.1 hText 16), ((u2.1 17), cellT G.2.1 u2.1 hText 17), (q3, .inr (8, [.ref (u4 1), .ref (u4 2), .ref (u4 3), .ref (u4 4), .int 0])), ((u4 1), .inl (G.2.1 14, 402, .inl (fun _ => 0))), ((u4 2), .inl (G.2.1 14, 402, .inl (fun _ => 0))), ((u4 3), .inl (G.2.1 15, 402, .inr (.inl (fun _ => 0)))), ((u4 4), .inl (G.2.1 15, 17, .inr (.inl wTok))), (q5, .inr (3, [.ref (u6 1), .int 1, .int 1, .int 1, .int 59, .int 0, .int 0, .int 0, .ref (u6 6), .int 0])), ((u6 1), .inr (2, [.ref (u6 2), .ref (u6 3), .int 0, .ref (u6 4), .ref (u6 5)])), ((u6 2), .inl (G.2.1 14, 402, .inl (fun _ => 0))), ((u6 3), .inl (G.2.1 14, 402, .inl (fun _ => 0))), ((u6 4), .inl (G.2.1 14, 6, .inl (fun _ => 0))), ((u6 5), .inl (G.2.1 14, 42, .inl (fun _ => 0))), ((u6 6), .inl (G.2.1 14, 21, .inl (fun _ => 0)))] H := hP
  have hD : va_D A [(q0, .inr (5, [.int (-1), .int 0, .int 0, .int 0, .ref (u2.1 0), .ref q3, .ref q5])), ((u2.1 0), cellT G.2.1 u2.1 hText 0), ((u2.1 1), cellT G.2.1 u2.1 hText 1), ((u2.1 2), cellT G.2.1 u2.1 hText 2), ((u2.1 3), cellT G.2.1 u2.1 hText 3), ((u2.1 4), cellT G.2.1 u2.1 hText 4), ((u2.1 5), cellT G.2.1 u2.1 hText 5), ((u2.1 6), cellT G.2.1 u2.1 hText 6), ((u2.1 7), cellT G.2.1 u2.1 hText 7), ((u2.1 8), cellT G.2.1 u2.1 hText 8), ((u2.1 9), cellT G.2.1 u2.1 hText 9), ((u2.1 10), cellT G.2.1 u2.1 hText 10), ((u2.1 11), cellT G.2.1 u2.1 hText 11), ((u2.1 12), cellT G.2.1 u2.1 hText 12), ((u2.1 13), cellT G.2.1 u2.1 hText 13), ((u2.1 14), cellT G.2.1 u2.1 hText 14), ((u2.1 15), cellT G.2.1 u2.1 hText 15), ((u2.1 16), cellT G.2.1 u2.1 hText 16), ((u2.1 17), cellT G.2.1 u2.1 hText 17), (q3, .inr (8, [.ref (u4 1), .ref (u4 2), .ref (u4 3), .ref (u4 4), .int 0])), ((u4 1), .inl (G.2.1 14, 402, .inl (fun _ => 0))), ((u4 2), .inl (G.2.1 14, 402, .inl (fun _ => 0))), ((u4 3), .inl (G.2.1 15, 402, .inr (.inl (fun _ => 0)))), ((u4 4), .inl (G.2.1 15, 17, .inr (.inl wTok))), (q5, .inr (3, [.ref (u6 1), .int 1, .int 1, .int 1, .int 59, .int 0, .int 0, .int 0, .ref (u6 6), .int 0])), ((u6 1), .inr (2, [.ref (u6 2), .ref (u6 3), .int 0, .ref (u6 4), .ref (u6 5)])), ((u6 2), .inl (G.2.1 14, 402, .inl (fun _ => 0))), ((u6 3), .inl (G.2.1 14, 402, .inl (fun _ => 0))), ((u6 4), .inl (G.2.1 14, 6, .inl (fun _ => 0))), ((u6 5), .inl (G.2.1 14, 42, .inl (fun _ => 0))), ((u6 6), .inl (G.2.1 14, 21, .inl (fun _ => 0)))] := hD
  refine W.widen (k := 30) (n := 12582) (Nat.le_of_ble_eq_true rfl) (Nat.le_of_ble_eq_true rfl) ?_
  exact W.vret hx hb hr (fun t ht hW => ⟨⟨((fun i => ([q0, q3, (u4 1), (u4 2), (u4 3), (u4 4), q5, (u6 1), (u6 2), (u6 3), (u6 4), (u6 5), (u6 6)] : List Nat).getD i 0), u2.1), rfl, trivial, by rw [ht]; exact hP, hD⟩, hS.F ht⟩) hS.2.2 dX5_init_57
