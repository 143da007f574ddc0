/-! ===== BEGIN words of one list among another's, by their places ===== -/
theorem goodIn_r {big : List Cond} (ws : List Cond) (ps : List Nat) (hp : ws = ps.filterMap (fun i => big[i]?)) (h : ws.all goodWord = true) : GoodIn big ws := by
  intro w hw
  have h1 := List.all_eq_true.mp h w hw
  rw [hp] at hw
  obtain ⟨i, -, hi⟩ := List.mem_filterMap.mp hw
  have hm : w ∈ big := by first | exact List.mem_of_getElem? hi | exact List.getElem?_mem hi
  exact ⟨hm, good_of_word h1⟩
theorem goodIn_app {big a b : List Cond} (ha : GoodIn big a) (hb : GoodIn big b) : GoodIn big (a ++ b) := fun w h => (List.mem_append.mp h).elim (ha w) (hb w)
theorem goodIn_ca {big a b : List Cond} {c : Cond} (ha : GoodIn big (c :: a)) (hb : GoodIn big b) : GoodIn big (c :: (a ++ b)) := fun w h => (List.mem_cons.mp h).elim (fun e => ha w (List.mem_cons.mpr (Or.inl e))) (fun h => (List.mem_append.mp h).elim (fun h => ha w (List.mem_cons.mpr (Or.inr h))) (hb w))
theorem goodIn_sub {big ws : List Cond} (hm : ∀ w ∈ ws, w ∈ big) (h : ws.all goodWord = true) : GoodIn big ws := fun w hw => ⟨hm w hw, good_of_word (List.all_eq_true.mp h w hw)⟩
/-! ===== END ===== -/

/-! ===== BEGIN new T[n][m]: the outer array a place, the inner ones among the pooled ===== -/
/-- f, but v at every address of l -/
def vr_up {α : Type} (f : Nat → α) (l : List Nat) (v : α) : Nat → α := fun a => if a ∈ l then v else f a
theorem vr_up_in {α : Type} {f : Nat → α} {l : List Nat} {v : α} {a : Nat} (h : a ∈ l) : vr_up f l v a = v := if_pos h
theorem vr_up_ne {α : Type} {f : Nat → α} {l : List Nat} {v : α} {a : Nat} (h : a ∉ l) : vr_up f l v a = f a := if_neg h
theorem vr_rows {L l : List Nat} {f : Nat → va_E} {e : va_E} (h : ∀ a, a ∈ l → a ∉ L) : va_pl L f ++ l.map (fun a => (a, e)) = va_pl (L ++ l) (vr_up f l e) := by
  unfold va_pl
  rw [List.map_append]
  congr 1
  · apply List.map_congr_left
    intro a ha
    rw [vr_up_ne (fun q => h a q ha)]
  · apply List.map_congr_left
    intro a ha
    rw [vr_up_in ha]
theorem vr_lay {X rows : va_W} {x : Nat × va_E} {pl : va_W} {D : va_G} {cl : List vw_C} {H : Heap} (hP : va_P D cl (((X ++ pl) ++ [x]) ++ rows) H) : va_P D cl ((X ++ [x]) ++ (pl ++ rows)) H := by
  rw [List.append_assoc (X ++ pl)] at hP
  have h := va_P.swap hP
  rw [← List.append_assoc X] at h
  have h2 := va_P.swap h
  rw [List.append_assoc (X ++ [x])] at h2
  exact h2
theorem vr_layD {X rows : va_W} {x : Nat × va_E} {pl : va_W} {A : Nat → Prop} (hD : va_D A (((X ++ pl) ++ [x]) ++ rows)) : va_D A ((X ++ [x]) ++ (pl ++ rows)) := by
  rw [List.append_assoc (X ++ pl)] at hD
  have h := va_D.swap hD
  rw [← List.append_assoc X] at h
  have h2 := va_D.swap h
  rw [List.append_assoc (X ++ [x])] at h2
  exact h2
theorem vr_outer (c : ClassId) (N h0 : Nat) : ∀ i : Nat, Jvm.Free.Multi.outerC c N h0 i = arrV c N (fun j => va_rf (if j < i then some (h0 + 1 + j) else none))
  | 0 => by
    show ({ cls := c, slots := Array.replicate N .null, vm := .none } : Cell) = _
    rw [arrV_new]
    refine congrArg (arrV c N) (funext fun j => ?_)
    simp [va_rf]
  | i + 1 => by
    show (Jvm.Free.Multi.outerC c N h0 i).setSlot i (.ref (h0 + 1 + i)) = _
    rw [vr_outer c N h0 i, arrV_store]
    refine congrArg (arrV c N) (funext fun j => ?_)
    by_cases e : j = i
    · subst e
      simp [updV, va_rf]
    · by_cases h : j < i
      · simp [updV, e, h, Nat.lt_succ_of_lt h]
      · simp [updV, e, h, show ¬ j < i + 1 by omega]
def va_AOA (ty : FieldType) (U : State) : Prop := (Cond.arrayOver (.array ty)).before #[] U = true
theorem va_AOA.use {ty : FieldType} {A : Array Value} {U : State} (h : va_AOA ty U) : (Cond.arrayOver (.array ty)).before A U = true := h
section VGM
variable {p : Program} {l : Launch} {e : Env} {R : Room} {s : State} {m : MethodId} {args : Array Value} {below : List Frame} {meth : Method} {c : Code} {H : Heap} {locs : List Loc} {cells slots : Nat} {Q : State → Prop}
variable {cc : ByteArray} {pc : Nat} {ls : Array Slot} {rest : List Value} {D : va_G} {cl : List vw_C} {A : Nat → Prop} {a : Nat} {tys : List (ClassId × FieldType)} {ws : va_W} {H0 : Heap}
theorem va_mna {X : va_W} {L : List Nat} {f : Nat → va_E} {cc : ByteArray} (hexec : p.tables.exec = Jvm.exec) (hb : c.code = cc) {own : String} {index : Nat} {ty : FieldType} {cy : ClassId} (hown : s.vm.findClass own = some m.cls) (hclink : (Cond.classLink own index ("[" ++ (FieldType.array ty).toString)).before args s = true) (hover : va_AOA ty s) (harr : (Cond.arrayClass ty).before args s = true) (hcy : s.vm.findClass (FieldType.array ty).toString = some cy)
    (hK : va_K D cl tys s) (hP : va_P D cl (X ++ va_pl L f) H) (hD : va_D A (X ++ va_pl L f)) (hS : va_S A H0 H locs) (hA : ∀ q, H0.size ≤ q → A q) {n k : Int32} {N' K' : Nat} {z : vp_A} (hn : ¬ n < 0) (hk : ¬ k < 0) (hN : n.toNatClampNeg = N') (hM : k.toNatClampNeg = K')
    (hb1 : N' * 4 ≤ 536870912) (hb2 : K' * componentBytes ty ≤ 536870912) (hb3 : K' ≤ 536870912) (hdf : fits ty (defaultValue ty) = true) (hdd : (defaultValue ty).isDefault = true) (hcells : cells + (1 + N') ≤ R.cells) (hslots : slots + (N' + N' * K') ≤ R.slots) (hz : ∀ c : ClassId, Jvm.Free.Multi.innerC c K' (defaultValue ty) = vp_cell c z) (hdg : decode cc pc = .ok (.multianewarray index 2, 4))
    (kk : ∀ (q : Nat) (r : Nat → Nat) (cA : ClassId) (H1 : Heap), (∀ i j : Nat, i < N' → j < N' → r i = r j → i = j) → (∀ i : Nat, i < N' → r i ∉ L) → va_K D cl (tys ++ [(cA, .array ty)]) s →
      va_P D cl ((X ++ [(q, .inl (cA, N', .inr (.inr (.inr (.inr (fun i => if i < N' then some (r i) else none))))))]) ++ va_pl (L ++ (List.range N').map r) (vr_up f ((List.range N').map r) (.inl (cy, z)))) H1 → va_D A ((X ++ [(q, .inl (cA, N', .inr (.inr (.inr (.inr (fun i => if i < N' then some (r i) else none))))))]) ++ va_pl (L ++ (List.range N').map r) (vr_up f ((List.range N').map r) (.inl (cy, z)))) → va_S A H0 H1 locs →
      W p l e R s m args below meth c H1 locs (cells + 1 + N') (slots + N' + N' * K') Q (F0 m (pc + 4) ls (.ref q :: rest))) : W p l e R s m args below meth c H locs cells slots Q (F0 m pc ls (.int k :: .int n :: rest)) := by
  subst hN
  subst hM
  intro T hT Xs
  obtain ⟨vm₁, cA, comp, -, fA, fC, hO, -, X', step⟩ := Xs.multianewarray2F hexec hown hclink (va_AOA.use hover) harr (g := F0 m pc ls (.int k :: .int n :: rest)) rfl (by rw [hb]; exact hdg) rfl hn hk hb1 hb2 hb3 hdf hdd hcells hslots
  have ec : some cy = some comp := hcy.symm.trans fC
  cases ec
  generalize hF : Jvm.Free.Multi.fill (T.setVm vm₁) cA cy n.toNatClampNeg k.toNatClampNeg (defaultValue ty) n.toNatClampNeg = F at X' step
  have hTh : (T.setVm vm₁).heap = H := hT
  obtain ⟨f1, f2, -, -⟩ := Jvm.Free.Multi.fill_facts (T.setVm vm₁) cA cy n.toNatClampNeg k.toNatClampNeg (defaultValue ty) n.toNatClampNeg
  rw [hF, hTh] at f1 f2
  have hold : ∀ x : Nat, x < H.size → F.heap[x]? = H[x]? := fun x hx => by
    have := Jvm.Free.Multi.fill_old (T.setVm vm₁) cA cy n.toNatClampNeg k.toNatClampNeg (defaultValue ty) (a := x) (by rw [hTh]; exact hx) n.toNatClampNeg
    rw [hF, hTh] at this
    exact this
  have hrow : ∀ j : Nat, j < n.toNatClampNeg → F.heap[H.size + 1 + j]? = some (vp_cell cy z) := fun j hj => by
    have := Jvm.Free.Multi.fill_inner (T.setVm vm₁) cA cy n.toNatClampNeg k.toNatClampNeg (defaultValue ty) n.toNatClampNeg j hj
    rw [hF, hTh, hz] at this
    exact this
  have hout : Jvm.Free.Multi.outerC cA n.toNatClampNeg H.size n.toNatClampNeg = vp_cell cA (n.toNatClampNeg, .inr (.inr (.inr (.inr (fun i => if i < n.toNatClampNeg then some (H.size + 1 + i) else none))))) := by
    rw [vp_cell_q]
    exact vr_outer cA n.toNatClampNeg H.size n.toNatClampNeg
  rw [hout] at f2
  have hlt : ∀ a, a ∈ L → a < H.size := fun a ha => by
    obtain ⟨k9, hk9⟩ := va_pl_get (X := X) (f := f) ha
    exact (hP k9 _ hk9).lt
  have hnl : ∀ i : Nat, i < n.toNatClampNeg → H.size + 1 + i ∉ L := fun i _ h => by
    have := hlt _ h
    omega
  have hnm : ∀ a, a ∈ (List.range n.toNatClampNeg).map (fun i => H.size + 1 + i) → a ∉ L := fun a ha h => by
    obtain ⟨i, -, rfl⟩ := List.mem_map.mp ha
    have := hlt _ h
    omega
  have hP0 : va_P D cl (X ++ va_pl L f) F.heap := hP.kept (fun k9 x hx => hold x.1 ((hP k9 x hx).lt))
  have hP1 : va_P D cl ((X ++ va_pl L f) ++ [(H.size, .inl (cA, n.toNatClampNeg, .inr (.inr (.inr (.inr (fun i => if i < n.toNatClampNeg then some (H.size + 1 + i) else none))))))]) F.heap := hP0.app (fun k9 x hx => by
    have h0 : k9 < 1 := (List.getElem?_eq_some_iff.mp hx).1
    rw [show k9 = 0 by omega] at hx
    cases hx
    exact f2)
  have hP2 : va_P D cl (((X ++ va_pl L f) ++ [(H.size, .inl (cA, n.toNatClampNeg, .inr (.inr (.inr (.inr (fun i => if i < n.toNatClampNeg then some (H.size + 1 + i) else none))))))]) ++ ((List.range n.toNatClampNeg).map (fun i => H.size + 1 + i)).map (fun a => (a, .inl (cy, z)))) F.heap := hP1.app (fun k9 x hx => by
    obtain ⟨a, ha, rfl⟩ := List.mem_map.mp (List.mem_of_getElem? hx)
    obtain ⟨i, hi, rfl⟩ := List.mem_map.mp ha
    exact hrow i (List.mem_range.mp hi))
  have hD2 : va_D A (((X ++ va_pl L f) ++ [(H.size, .inl (cA, n.toNatClampNeg, .inr (.inr (.inr (.inr (fun i => if i < n.toNatClampNeg then some (H.size + 1 + i) else none))))))]) ++ ((List.range n.toNatClampNeg).map (fun i => H.size + 1 + i)).map (fun a => (a, .inl (cy, z)))) := by
    have hD1 := hD.push (e := .inl (cA, n.toNatClampNeg, .inr (.inr (.inr (.inr (fun i => if i < n.toNatClampNeg then some (H.size + 1 + i) else none)))))) hP rfl (hA _ hS.1)
    generalize hW1 : (X ++ va_pl L f) ++ [(H.size, .inl (cA, n.toNatClampNeg, .inr (.inr (.inr (.inr (fun i => if i < n.toNatClampNeg then some (H.size + 1 + i) else none))))))] = W1 at hD1 hP1 ⊢
    have hle : ∀ (k9 : Nat) (x : Nat × va_E), W1[k9]? = some x → x.1 ≤ H.size := fun k9 x hx => by
      rw [← hW1] at hx
      by_cases hl : k9 < (X ++ va_pl L f).length
      · rw [List.getElem?_append_left hl] at hx
        exact Nat.le_of_lt ((hP k9 x hx).lt)
      · rw [List.getElem?_append_right (by omega)] at hx
        have h0 : k9 - (X ++ va_pl L f).length < 1 := (List.getElem?_eq_some_iff.mp hx).1
        rw [show k9 - (X ++ va_pl L f).length = 0 by omega] at hx
        cases hx
        exact Nat.le_refl _
    have hr : ∀ (k9 : Nat) (x : Nat × va_E), (((List.range n.toNatClampNeg).map (fun i => H.size + 1 + i)).map (fun a => ((a, .inl (cy, z)) : Nat × va_E)))[k9]? = some x → x.1 = H.size + 1 + k9 := fun k9 x hx => by
      rw [List.getElem?_map, List.getElem?_map] at hx
      by_cases h9 : k9 < n.toNatClampNeg
      · rw [List.getElem?_range h9] at hx
        cases hx
        rfl
      · have hn0 : (List.range n.toNatClampNeg)[k9]? = none := List.getElem?_eq_none (by rw [List.length_range]; omega)
        rw [hn0] at hx
        cases hx
    refine ⟨fun i j x y hi hj hxy => ?_, fun k9 x hx => ?_⟩
    · by_cases h1 : i < W1.length <;> by_cases h2 : j < W1.length
      · rw [List.getElem?_append_left h1] at hi
        rw [List.getElem?_append_left h2] at hj
        exact hD1.1 i j x y hi hj hxy
      · rw [List.getElem?_append_left h1] at hi
        rw [List.getElem?_append_right (by omega)] at hj
        have := hle _ _ hi
        have := hr _ _ hj
        omega
      · rw [List.getElem?_append_right (by omega)] at hi
        rw [List.getElem?_append_left h2] at hj
        have := hle _ _ hj
        have := hr _ _ hi
        omega
      · rw [List.getElem?_append_right (by omega)] at hi hj
        have := hr _ _ hi
        have := hr _ _ hj
        omega
    · by_cases h1 : k9 < W1.length
      · rw [List.getElem?_append_left h1] at hx
        exact hD1.2 k9 x hx
      · rw [List.getElem?_append_right (by omega)] at hx
        have := hr _ _ hx
        exact hA _ (by have := hS.1; omega)
  have hAr : ArrOfT s cA (.array ty) := fun N9 z9 => by
    obtain ⟨-, k9, hk9, cm9, hkk9⟩ := (hO 0 0 0).1
    exact ⟨(fun q hq => by cases hq), k9, hk9, cm9, hkk9⟩
  have hK2 : va_K D cl (tys ++ [(cA, .array ty)]) s := ⟨hK.1, fun k9 x hx => by
    by_cases hl : k9 < tys.length
    · rw [List.getElem?_append_left hl] at hx
      exact hK.2 k9 x hx
    · rw [List.getElem?_append_right (by omega)] at hx
      have h0 : k9 - tys.length < 1 := (List.getElem?_eq_some_iff.mp hx).1
      rw [show k9 - tys.length = 0 by omega] at hx
      cases hx
      exact ⟨hAr, fA⟩⟩
  obtain ⟨t, a1, b1⟩ := kk H.size (fun i => H.size + 1 + i) cA F.heap (fun i j _ _ h => by have h9 : H.size + 1 + i = H.size + 1 + j := h; omega) hnl hK2 (by rw [← vr_rows hnm]; exact vr_lay hP2) (by rw [← vr_rows hnm]; exact vr_layD hD2) ⟨by rw [f1]; have := hS.1; omega, fun x h1 h2 => (hold x (Nat.lt_of_lt_of_le h1 hS.1)).trans (hS.2.1 x h1 h2), hS.2.2⟩ F rfl X'
  refine ⟨t, step t ?_, b1⟩
  have e : T.heap.size = H.size := by rw [hT]
  rw [e]
  exact a1
end VGM
/-! ===== END ===== -/

/-! ===== BEGIN printed: names, fields, word lists, decode rows ===== -/
def RX0 : String := "TwoAsks$Bags"
def TX0 : u_T := fun k => match k with
  | 0 => ("TwoAsks$Bags", "many", "I", false)
  | 1 => ("TwoAsks$Bags", "coins", "[I", true)
  | _ => ("TwoAsks$Bags", "marks", "[B", true)
def tyX0 : Nat → FieldType := fun k => match k with
  | 0 => .int
  | 1 => .array .int
  | _ => .array .byte
abbrev wsX00 : List Cond := u_ws RX0 TX0 3
theorem nmX0 : ∀ a, a < 3 → ∀ b, b < 3 → a ≠ b → (TX0 a).2.1 ≠ (TX0 b).2.1 := by decide +kernel
theorem tyX0_ok : ∀ k, k < 3 → parseFieldDescriptor (TX0 k).2.2.1 = some (tyX0 k) := by decide +kernel
abbrev cX0_init : ByteArray := prog_2_method_1_code
def yX0_init : MethodName := ⟨RX0, "<init>", "()V"⟩
abbrev cX0_clear : ByteArray := prog_2_method_2_code
def yX0_clear : MethodName := ⟨RX0, "clear", "()V"⟩
abbrev cX0_add : ByteArray := prog_2_method_3_code
def yX0_add : MethodName := ⟨RX0, "add", "(I)V"⟩
abbrev cX0_sets : ByteArray := prog_2_method_4_code
def yX0_sets : MethodName := ⟨RX0, "sets", "()I"⟩
abbrev cX0_setsOff : ByteArray := prog_2_method_5_code
def yX0_setsOff : MethodName := ⟨RX0, "setsOff", "(II)I"⟩
abbrev cX0_leastSetOff : ByteArray := prog_2_method_6_code
def yX0_leastSetOff : MethodName := ⟨RX0, "leastSetOff", "(II)I"⟩
abbrev cX0_leastGap : ByteArray := prog_2_method_7_code
def yX0_leastGap : MethodName := ⟨RX0, "leastGap", "()I"⟩
abbrev cX0_leastBetweenMarks : ByteArray := prog_2_method_8_code
def yX0_leastBetweenMarks : MethodName := ⟨RX0, "leastBetweenMarks", "()I"⟩
def RX1 : String := "TwoAsks$Fitting"
def TX1 : u_T := fun k => match k with
  | 0 => ("TwoAsks$Fitting", "ones", "[I", true)
  | 1 => ("TwoAsks$Fitting", "many", "I", false)
  | 2 => ("TwoAsks$Fitting", "bestSaid", "I", false)
  | 3 => ("TwoAsks$Fitting", "bestMost", "I", false)
  | 4 => ("TwoAsks$Fitting", "worlds", "LTwoAsks$Worlds;", true)
  | 5 => ("TwoAsks$Fitting", "tally", "[I", true)
  | _ => ("TwoAsks$Fitting", "answers", "[[J", true)
def tyX1 : Nat → FieldType := fun k => match k with
  | 0 => .array .int
  | 1 => .int
  | 2 => .int
  | 3 => .int
  | 4 => .object "TwoAsks$Worlds"
  | 5 => .array .int
  | _ => .array (.array .long)
abbrev wsX10 : List Cond := u_ws RX1 TX1 7
theorem nmX1 : ∀ a, a < 7 → ∀ b, b < 7 → a ≠ b → (TX1 a).2.1 ≠ (TX1 b).2.1 := by decide +kernel
theorem tyX1_ok : ∀ k, k < 7 → parseFieldDescriptor (TX1 k).2.2.1 = some (tyX1 k) := by decide +kernel
abbrev cX1_init : ByteArray := prog_3_method_1_code
def yX1_init : MethodName := ⟨RX1, "<init>", "(LTwoAsks$Worlds;)V"⟩
abbrev cX1_takeAll : ByteArray := prog_3_method_2_code
def yX1_takeAll : MethodName := ⟨RX1, "takeAll", "()V"⟩
abbrev cX1_keep : ByteArray := prog_3_method_3_code
def yX1_keep : MethodName := ⟨RX1, "keep", "(J)V"⟩
abbrev cX1_select : ByteArray := prog_3_method_4_code
def yX1_select : MethodName := ⟨RX1, "select", "(LTwoAsks$Told;III)V"⟩
abbrev cX1_dropWrong : ByteArray := prog_3_method_5_code
def yX1_dropWrong : MethodName := ⟨RX1, "dropWrong", "(JI)V"⟩
abbrev cX1_leastAt : ByteArray := prog_3_method_6_code
def yX1_leastAt : MethodName := ⟨RX1, "leastAt", "(I)I"⟩
abbrev cX1_greatestAt : ByteArray := prog_3_method_7_code
def yX1_greatestAt : MethodName := ⟨RX1, "greatestAt", "(I)I"⟩
abbrev cX1_surePlaces : ByteArray := prog_3_method_8_code
def yX1_surePlaces : MethodName := ⟨RX1, "surePlaces", "()I"⟩
abbrev cX1_sureLiars : ByteArray := prog_3_method_9_code
def yX1_sureLiars : MethodName := ⟨RX1, "sureLiars", "(LTwoAsks$Told;I)I"⟩
abbrev cX1_isSoForSome : ByteArray := prog_3_method_10_code
def yX1_isSoForSome : MethodName := ⟨RX1, "isSoForSome", "(J)Z"⟩
abbrev cX1_findQuestion : ByteArray := prog_3_method_11_code
def yX1_findQuestion : MethodName := ⟨RX1, "findQuestion", "()V"⟩
abbrev cX1_mostAlike : ByteArray := prog_3_method_12_code
def yX1_mostAlike : MethodName := ⟨RX1, "mostAlike", "(II)I"⟩
abbrev cX1_enoughQuestions : ByteArray := prog_3_method_13_code
def yX1_enoughQuestions : MethodName := ⟨RX1, "enoughQuestions", "()I"⟩
abbrev cX1_fillAnswers : ByteArray := prog_3_method_14_code
def yX1_fillAnswers : MethodName := ⟨RX1, "fillAnswers", "()V"⟩
abbrev cX1_areGroupsToldApart : ByteArray := prog_3_method_15_code
def yX1_areGroupsToldApart : MethodName := ⟨RX1, "areGroupsToldApart", "(I)Z"⟩
abbrev cX1_groupOf : ByteArray := prog_3_method_16_code
def yX1_groupOf : MethodName := ⟨RX1, "groupOf", "(II)I"⟩
abbrev cX1_isToldApart : ByteArray := prog_3_method_17_code
def yX1_isToldApart : MethodName := ⟨RX1, "isToldApart", "(I)Z"⟩
abbrev cX1_isApartBy : ByteArray := prog_3_method_18_code
def yX1_isApartBy : MethodName := ⟨RX1, "isApartBy", "(II)Z"⟩
def RX2 : String := "TwoAsks$Law"
def TX2 : u_T := fun k => match k with
  | 0 => ("TwoAsks$Law", "steps", "[I", true)
  | 1 => ("TwoAsks$Law", "values", "[I", true)
  | 2 => ("TwoAsks$Law", "many", "I", false)
  | 3 => ("TwoAsks$Law", "looks", "[I", true)
  | _ => ("TwoAsks$Law", "stack", "[I", true)
def tyX2 : Nat → FieldType := fun k => match k with
  | 0 => .array .int
  | 1 => .array .int
  | 2 => .int
  | 3 => .array .int
  | _ => .array .int
abbrev wsX20 : List Cond := u_ws RX2 TX2 5
theorem nmX2 : ∀ a, a < 5 → ∀ b, b < 5 → a ≠ b → (TX2 a).2.1 ≠ (TX2 b).2.1 := by decide +kernel
theorem tyX2_ok : ∀ k, k < 5 → parseFieldDescriptor (TX2 k).2.2.1 = some (tyX2 k) := by decide +kernel
abbrev cX2_init : ByteArray := prog_4_method_1_code
def yX2_init : MethodName := ⟨RX2, "<init>", "()V"⟩
abbrev cX2_clear : ByteArray := prog_4_method_2_code
def yX2_clear : MethodName := ⟨RX2, "clear", "()V"⟩
abbrev cX2_add : ByteArray := prog_4_method_3_code
def yX2_add : MethodName := ⟨RX2, "add", "(II)I"⟩
abbrev cX2_copy : ByteArray := prog_4_method_4_code
def yX2_copy : MethodName := ⟨RX2, "copy", "(LTwoAsks$Law;)V"⟩
abbrev cX2_branchHere : ByteArray := prog_4_method_5_code
def yX2_branchHere : MethodName := ⟨RX2, "branchHere", "(I)V"⟩
abbrev cX2_numberAt : ByteArray := prog_4_method_6_code
def yX2_numberAt : MethodName := ⟨RX2, "numberAt", "(III)I"⟩
abbrev cX2_question : ByteArray := prog_4_method_7_code
def yX2_question : MethodName := ⟨RX2, "question", "(IJI)I"⟩
abbrev cX2_look : ByteArray := prog_4_method_8_code
def yX2_look : MethodName := ⟨RX2, "look", "(IIIIII)V"⟩
abbrev cX2_worth : ByteArray := prog_4_method_9_code
def yX2_worth : MethodName := ⟨RX2, "worth", "()I"⟩
abbrev cX2_joined : ByteArray := prog_4_method_10_code
def yX2_joined : MethodName := ⟨RX2, "joined", "(III)I"⟩
def RX3 : String := "TwoAsks$LawReader"
def TX3 : u_T := fun k => match k with
  | 0 => ("TwoAsks$LawReader", "law", "LTwoAsks$Law;", true)
  | 1 => ("TwoAsks$LawReader", "isOver", "Z", false)
  | 2 => ("TwoAsks$LawReader", "wantsUnit", "Z", false)
  | 3 => ("TwoAsks$LawReader", "mayBranch", "Z", false)
  | 4 => ("TwoAsks$LawReader", "closer", "I", false)
  | 5 => ("TwoAsks$LawReader", "ifs", "I", false)
  | 6 => ("TwoAsks$LawReader", "nested", "I", false)
  | 7 => ("TwoAsks$LawReader", "branch", "I", false)
  | 8 => ("TwoAsks$LawReader", "waiting", "[I", true)
  | _ => ("TwoAsks$LawReader", "waits", "I", false)
def tyX3 : Nat → FieldType := fun k => match k with
  | 0 => .object "TwoAsks$Law"
  | 1 => .boolean
  | 2 => .boolean
  | 3 => .boolean
  | 4 => .int
  | 5 => .int
  | 6 => .int
  | 7 => .int
  | 8 => .array .int
  | _ => .int
abbrev wsX30 : List Cond := u_ws RX3 TX3 10
theorem nmX3 : ∀ a, a < 10 → ∀ b, b < 10 → a ≠ b → (TX3 a).2.1 ≠ (TX3 b).2.1 := by decide +kernel
theorem tyX3_ok : ∀ k, k < 10 → parseFieldDescriptor (TX3 k).2.2.1 = some (tyX3 k) := by decide +kernel
abbrev cX3_init : ByteArray := prog_5_method_1_code
def yX3_init : MethodName := ⟨RX3, "<init>", "()V"⟩
abbrev cX3_begin : ByteArray := prog_5_method_2_code
def yX3_begin : MethodName := ⟨RX3, "begin", "()V"⟩
abbrev cX3_unit : ByteArray := prog_5_method_3_code
def yX3_unit : MethodName := ⟨RX3, "unit", "(II)I"⟩
abbrev cX3_branchBegins : ByteArray := prog_5_method_4_code
def yX3_branchBegins : MethodName := ⟨RX3, "branchBegins", "()I"⟩
abbrev cX3_nestBegins : ByteArray := prog_5_method_5_code
def yX3_nestBegins : MethodName := ⟨RX3, "nestBegins", "()I"⟩
abbrev cX3_behindUnit : ByteArray := prog_5_method_6_code
def yX3_behindUnit : MethodName := ⟨RX3, "behindUnit", "(I)I"⟩
abbrev cX3_rankOf : ByteArray := prog_5_method_7_code
def yX3_rankOf : MethodName := ⟨RX3, "rankOf", "(I)I"⟩
abbrev cX3_letWait : ByteArray := prog_5_method_8_code
def yX3_letWait : MethodName := ⟨RX3, "letWait", "(I)V"⟩
abbrev cX3_writeWaiting : ByteArray := prog_5_method_9_code
def yX3_writeWaiting : MethodName := ⟨RX3, "writeWaiting", "(I)V"⟩
abbrev cX3_nestEnds : ByteArray := prog_5_method_10_code
def yX3_nestEnds : MethodName := ⟨RX3, "nestEnds", "()V"⟩
abbrev cX3_partEnds : ByteArray := prog_5_method_11_code
def yX3_partEnds : MethodName := ⟨RX3, "partEnds", "()V"⟩
def RX4 : String := "TwoAsks$Leaders"
def TX4 : u_T := fun k => match k with
  | 0 => ("TwoAsks$Leaders", "keys", "[J", true)
  | 1 => ("TwoAsks$Leaders", "takers", "[I", true)
  | _ => ("TwoAsks$Leaders", "size", "I", false)
def tyX4 : Nat → FieldType := fun k => match k with
  | 0 => .array .long
  | 1 => .array .int
  | _ => .int
abbrev wsX40 : List Cond := u_ws RX4 TX4 3
theorem nmX4 : ∀ a, a < 3 → ∀ b, b < 3 → a ≠ b → (TX4 a).2.1 ≠ (TX4 b).2.1 := by decide +kernel
theorem tyX4_ok : ∀ k, k < 3 → parseFieldDescriptor (TX4 k).2.2.1 = some (tyX4 k) := by decide +kernel
abbrev cX4_init : ByteArray := prog_6_method_1_code
def yX4_init : MethodName := ⟨RX4, "<init>", "()V"⟩
abbrev cX4_clear : ByteArray := prog_6_method_2_code
def yX4_clear : MethodName := ⟨RX4, "clear", "(I)V"⟩
abbrev cX4_leaderOf : ByteArray := prog_6_method_3_code
def yX4_leaderOf : MethodName := ⟨RX4, "leaderOf", "(JI)I"⟩
def RX5 : String := "TwoAsks$Reader"
def TX5 : u_T := fun k => match k with
  | 0 => ("TwoAsks$Reader", "faultPlace", "I", false)
  | 1 => ("TwoAsks$Reader", "fault", "I", false)
  | 2 => ("TwoAsks$Reader", "at", "I", false)
  | 3 => ("TwoAsks$Reader", "rowSize", "I", false)
  | 4 => ("TwoAsks$Reader", "draft", "LTwoAsks$Text;", false)
  | 5 => ("TwoAsks$Reader", "tokens", "LTwoAsks$Tokens;", true)
  | _ => ("TwoAsks$Reader", "laws", "LTwoAsks$LawReader;", true)
def tyX5 : Nat → FieldType := fun k => match k with
  | 0 => .int
  | 1 => .int
  | 2 => .int
  | 3 => .int
  | 4 => .object "TwoAsks$Text"
  | 5 => .object "TwoAsks$Tokens"
  | _ => .object "TwoAsks$LawReader"
abbrev wsX50 : List Cond := u_ws RX5 TX5 7
theorem nmX5 : ∀ a, a < 7 → ∀ b, b < 7 → a ≠ b → (TX5 a).2.1 ≠ (TX5 b).2.1 := by decide +kernel
theorem tyX5_ok : ∀ k, k < 7 → parseFieldDescriptor (TX5 k).2.2.1 = some (tyX5 k) := by decide +kernel
abbrev cX5_init : ByteArray := prog_7_method_1_code
def yX5_init : MethodName := ⟨RX5, "<init>", "()V"⟩
abbrev cX5_readDraft : ByteArray := prog_7_method_2_code
def yX5_readDraft : MethodName := ⟨RX5, "readDraft", "([BI)I"⟩
abbrev cX5_exchange : ByteArray := prog_7_method_3_code
def yX5_exchange : MethodName := ⟨RX5, "exchange", "(LTwoAsks$Text;)LTwoAsks$Text;"⟩
abbrev cX5_kind : ByteArray := prog_7_method_4_code
def yX5_kind : MethodName := ⟨RX5, "kind", "()I"⟩
abbrev cX5_readTell : ByteArray := prog_7_method_5_code
def yX5_readTell : MethodName := ⟨RX5, "readTell", "()Z"⟩
abbrev cX5_stop : ByteArray := prog_7_method_6_code
def yX5_stop : MethodName := ⟨RX5, "stop", "(I)Z"⟩
abbrev cX5_note : ByteArray := prog_7_method_7_code
def yX5_note : MethodName := ⟨RX5, "note", "(II)V"⟩
abbrev cX5_take : ByteArray := prog_7_method_8_code
def yX5_take : MethodName := ⟨RX5, "take", "(I)Z"⟩
abbrev cX5_taken : ByteArray := prog_7_method_9_code
def yX5_taken : MethodName := ⟨RX5, "taken", "(I)J"⟩
abbrev cX5_takenWithin : ByteArray := prog_7_method_10_code
def yX5_takenWithin : MethodName := ⟨RX5, "takenWithin", "(III)Z"⟩
abbrev cX5_takeName : ByteArray := prog_7_method_11_code
def yX5_takeName : MethodName := ⟨RX5, "takeName", "()Z"⟩
abbrev cX5_noteSize : ByteArray := prog_7_method_12_code
def yX5_noteSize : MethodName := ⟨RX5, "noteSize", "()Z"⟩
abbrev cX5_tellRow : ByteArray := prog_7_method_13_code
def yX5_tellRow : MethodName := ⟨RX5, "tellRow", "()Z"⟩
abbrev cX5_tellAsk : ByteArray := prog_7_method_14_code
def yX5_tellAsk : MethodName := ⟨RX5, "tellAsk", "()Z"⟩
abbrev cX5_readList : ByteArray := prog_7_method_15_code
def yX5_readList : MethodName := ⟨RX5, "readList", "()Z"⟩
abbrev cX5_tellShare : ByteArray := prog_7_method_16_code
def yX5_tellShare : MethodName := ⟨RX5, "tellShare", "()Z"⟩
abbrev cX5_tellBound : ByteArray := prog_7_method_17_code
def yX5_tellBound : MethodName := ⟨RX5, "tellBound", "()Z"⟩
abbrev cX5_tellNumber : ByteArray := prog_7_method_18_code
def yX5_tellNumber : MethodName := ⟨RX5, "tellNumber", "(I)Z"⟩
abbrev cX5_isPrime : ByteArray := prog_7_method_19_code
def yX5_isPrime : MethodName := ⟨RX5, "isPrime", "(I)Z"⟩
abbrev cX5_readLaw : ByteArray := prog_7_method_20_code
def yX5_readLaw : MethodName := ⟨RX5, "readLaw", "()Z"⟩
abbrev cX5_findGreat : ByteArray := prog_7_method_21_code
def yX5_findGreat : MethodName := ⟨RX5, "findGreat", "()V"⟩
def RX6 : String := "TwoAsks$Shares"
def TX6 : u_T := fun k => match k with
  | 0 => ("TwoAsks$Shares", "many", "I", false)
  | 1 => ("TwoAsks$Shares", "prime", "I", false)
  | 2 => ("TwoAsks$Shares", "ats", "[I", true)
  | 3 => ("TwoAsks$Shares", "starts", "[I", true)
  | 4 => ("TwoAsks$Shares", "whats", "[I", true)
  | 5 => ("TwoAsks$Shares", "row", "[I", true)
  | _ => ("TwoAsks$Shares", "product", "[I", true)
def tyX6 : Nat → FieldType := fun k => match k with
  | 0 => .int
  | 1 => .int
  | 2 => .array .int
  | 3 => .array .int
  | 4 => .array .int
  | 5 => .array .int
  | _ => .array .int
abbrev wsX60 : List Cond := u_ws RX6 TX6 7
theorem nmX6 : ∀ a, a < 7 → ∀ b, b < 7 → a ≠ b → (TX6 a).2.1 ≠ (TX6 b).2.1 := by decide +kernel
theorem tyX6_ok : ∀ k, k < 7 → parseFieldDescriptor (TX6 k).2.2.1 = some (tyX6 k) := by decide +kernel
abbrev cX6_init : ByteArray := prog_8_method_1_code
def yX6_init : MethodName := ⟨RX6, "<init>", "()V"⟩
abbrev cX6_clear : ByteArray := prog_8_method_2_code
def yX6_clear : MethodName := ⟨RX6, "clear", "()V"⟩
abbrev cX6_add : ByteArray := prog_8_method_3_code
def yX6_add : MethodName := ⟨RX6, "add", "(III)V"⟩
abbrev cX6_isAt : ByteArray := prog_8_method_4_code
def yX6_isAt : MethodName := ⟨RX6, "isAt", "(I)Z"⟩
abbrev cX6_isSet : ByteArray := prog_8_method_5_code
def yX6_isSet : MethodName := ⟨RX6, "isSet", "(I)Z"⟩
abbrev cX6_isIn : ByteArray := prog_8_method_6_code
def yX6_isIn : MethodName := ⟨RX6, "isIn", "(II)Z"⟩
abbrev cX6_restOf : ByteArray := prog_8_method_7_code
def yX6_restOf : MethodName := ⟨RX6, "restOf", "(J)I"⟩
abbrev cX6_findRow : ByteArray := prog_8_method_8_code
def yX6_findRow : MethodName := ⟨RX6, "findRow", "(I)V"⟩
abbrev cX6_othersProduct : ByteArray := prog_8_method_9_code
def yX6_othersProduct : MethodName := ⟨RX6, "othersProduct", "(II)I"⟩
abbrev cX6_turnedOver : ByteArray := prog_8_method_10_code
def yX6_turnedOver : MethodName := ⟨RX6, "turnedOver", "(I)I"⟩
abbrev cX6_comesTo : ByteArray := prog_8_method_11_code
def yX6_comesTo : MethodName := ⟨RX6, "comesTo", "(I)I"⟩
abbrev cX6_sharesOff : ByteArray := prog_8_method_12_code
def yX6_sharesOff : MethodName := ⟨RX6, "sharesOff", "()I"⟩
abbrev cX6_offRow : ByteArray := prog_8_method_13_code
def yX6_offRow : MethodName := ⟨RX6, "offRow", "(I)I"⟩
def RX7 : String := "TwoAsks$Text"
def TX7 : u_T := fun k => match k with
  | 0 => ("TwoAsks$Text", "rows", "I", false)
  | 1 => ("TwoAsks$Text", "sizes", "[I", true)
  | 2 => ("TwoAsks$Text", "names", "[J", true)
  | 3 => ("TwoAsks$Text", "numbers", "[I", true)
  | 4 => ("TwoAsks$Text", "ask", "LTwoAsks$Law;", true)
  | 5 => ("TwoAsks$Text", "shares", "LTwoAsks$Shares;", true)
  | 6 => ("TwoAsks$Text", "bags", "LTwoAsks$Bags;", true)
  | 7 => ("TwoAsks$Text", "worldPlaces", "I", false)
  | 8 => ("TwoAsks$Text", "greatest", "I", false)
  | _ => ("TwoAsks$Text", "liar", "I", false)
def tyX7 : Nat → FieldType := fun k => match k with
  | 0 => .int
  | 1 => .array .int
  | 2 => .array .long
  | 3 => .array .int
  | 4 => .object "TwoAsks$Law"
  | 5 => .object "TwoAsks$Shares"
  | 6 => .object "TwoAsks$Bags"
  | 7 => .int
  | 8 => .int
  | _ => .int
abbrev wsX70 : List Cond := u_ws RX7 TX7 10
theorem nmX7 : ∀ a, a < 10 → ∀ b, b < 10 → a ≠ b → (TX7 a).2.1 ≠ (TX7 b).2.1 := by decide +kernel
theorem tyX7_ok : ∀ k, k < 10 → parseFieldDescriptor (TX7 k).2.2.1 = some (tyX7 k) := by decide +kernel
abbrev cX7_init : ByteArray := prog_9_method_1_code
def yX7_init : MethodName := ⟨RX7, "<init>", "()V"⟩
abbrev cX7_clear : ByteArray := prog_9_method_2_code
def yX7_clear : MethodName := ⟨RX7, "clear", "()V"⟩
abbrev cX7_isFullOf : ByteArray := prog_9_method_3_code
def yX7_isFullOf : MethodName := ⟨RX7, "isFullOf", "(I)Z"⟩
abbrev cX7_tellName : ByteArray := prog_9_method_4_code
def yX7_tellName : MethodName := ⟨RX7, "tellName", "(J)Z"⟩
abbrev cX7_tellNumber : ByteArray := prog_9_method_5_code
def yX7_tellNumber : MethodName := ⟨RX7, "tellNumber", "(II)V"⟩
abbrev cX7_endRow : ByteArray := prog_9_method_6_code
def yX7_endRow : MethodName := ⟨RX7, "endRow", "(I)V"⟩
abbrev cX7_numberAt : ByteArray := prog_9_method_7_code
def yX7_numberAt : MethodName := ⟨RX7, "numberAt", "(II)I"⟩
abbrev cX7_comesTo : ByteArray := prog_9_method_8_code
def yX7_comesTo : MethodName := ⟨RX7, "comesTo", "(IJ)J"⟩
abbrev cX7_isSomeBelowZero : ByteArray := prog_9_method_9_code
def yX7_isSomeBelowZero : MethodName := ⟨RX7, "isSomeBelowZero", "(I)Z"⟩
def RX8 : String := "TwoAsks$Tokens"
def TX8 : u_T := fun k => match k with
  | 0 => ("TwoAsks$Tokens", "kinds", "[I", true)
  | 1 => ("TwoAsks$Tokens", "starts", "[I", true)
  | 2 => ("TwoAsks$Tokens", "values", "[J", true)
  | 3 => ("TwoAsks$Tokens", "words", "[J", true)
  | _ => ("TwoAsks$Tokens", "many", "I", false)
def tyX8 : Nat → FieldType := fun k => match k with
  | 0 => .array .int
  | 1 => .array .int
  | 2 => .array .long
  | 3 => .array .long
  | _ => .int
abbrev wsX80 : List Cond := u_ws RX8 TX8 5
theorem nmX8 : ∀ a, a < 5 → ∀ b, b < 5 → a ≠ b → (TX8 a).2.1 ≠ (TX8 b).2.1 := by decide +kernel
theorem tyX8_ok : ∀ k, k < 5 → parseFieldDescriptor (TX8 k).2.2.1 = some (tyX8 k) := by decide +kernel
abbrev cX8_init : ByteArray := prog_10_method_1_code
def yX8_init : MethodName := ⟨RX8, "<init>", "()V"⟩
abbrev cX8_wordText : ByteArray := prog_10_method_2_code
def yX8_wordText : MethodName := ⟨RX8, "wordText", "(I)Ljava/lang/String;"⟩
abbrev cX8_withLetter : ByteArray := prog_10_method_3_code
def yX8_withLetter : MethodName := ⟨RX8, "withLetter", "(JI)J"⟩
abbrev cX8_cut : ByteArray := prog_10_method_4_code
def yX8_cut : MethodName := ⟨RX8, "cut", "([BI)V"⟩
abbrev cX8_cutOne : ByteArray := prog_10_method_5_code
def yX8_cutOne : MethodName := ⟨RX8, "cutOne", "([BII)I"⟩
abbrev cX8_isBlank : ByteArray := prog_10_method_6_code
def yX8_isBlank : MethodName := ⟨RX8, "isBlank", "(I)Z"⟩
abbrev cX8_isLetter : ByteArray := prog_10_method_7_code
def yX8_isLetter : MethodName := ⟨RX8, "isLetter", "(I)Z"⟩
abbrev cX8_isDigit : ByteArray := prog_10_method_8_code
def yX8_isDigit : MethodName := ⟨RX8, "isDigit", "(I)Z"⟩
abbrev cX8_isSign : ByteArray := prog_10_method_9_code
def yX8_isSign : MethodName := ⟨RX8, "isSign", "(I)Z"⟩
abbrev cX8_add : ByteArray := prog_10_method_10_code
def yX8_add : MethodName := ⟨RX8, "add", "(IIJ)V"⟩
abbrev cX8_cutName : ByteArray := prog_10_method_11_code
def yX8_cutName : MethodName := ⟨RX8, "cutName", "([BII)I"⟩
abbrev cX8_kindOf : ByteArray := prog_10_method_12_code
def yX8_kindOf : MethodName := ⟨RX8, "kindOf", "(J)I"⟩
abbrev cX8_cutInt : ByteArray := prog_10_method_13_code
def yX8_cutInt : MethodName := ⟨RX8, "cutInt", "([BII)I"⟩
def RX9 : String := "TwoAsks$Told"
def TX9 : u_T := fun k => match k with
  | 0 => ("TwoAsks$Told", "many", "I", false)
  | 1 => ("TwoAsks$Told", "said", "[I", true)
  | 2 => ("TwoAsks$Told", "answers", "[J", true)
  | _ => ("TwoAsks$Told", "holds", "Z", false)
def tyX9 : Nat → FieldType := fun k => match k with
  | 0 => .int
  | 1 => .array .int
  | 2 => .array .long
  | _ => .boolean
abbrev wsX90 : List Cond := u_ws RX9 TX9 4
theorem nmX9 : ∀ a, a < 4 → ∀ b, b < 4 → a ≠ b → (TX9 a).2.1 ≠ (TX9 b).2.1 := by decide +kernel
theorem tyX9_ok : ∀ k, k < 4 → parseFieldDescriptor (TX9 k).2.2.1 = some (tyX9 k) := by decide +kernel
abbrev cX9_init : ByteArray := prog_11_method_1_code
def yX9_init : MethodName := ⟨RX9, "<init>", "()V"⟩
abbrev cX9_clear : ByteArray := prog_11_method_2_code
def yX9_clear : MethodName := ⟨RX9, "clear", "()V"⟩
abbrev cX9_isFull : ByteArray := prog_11_method_3_code
def yX9_isFull : MethodName := ⟨RX9, "isFull", "()Z"⟩
abbrev cX9_add : ByteArray := prog_11_method_4_code
def yX9_add : MethodName := ⟨RX9, "add", "(IJ)V"⟩
abbrev cX9_copy : ByteArray := prog_11_method_5_code
def yX9_copy : MethodName := ⟨RX9, "copy", "(LTwoAsks$Told;)V"⟩
def RX10 : String := "TwoAsks$Worlds"
def TX10 : u_T := fun k => match k with
  | 0 => ("TwoAsks$Worlds", "places", "I", false)
  | 1 => ("TwoAsks$Worlds", "many", "I", false)
  | 2 => ("TwoAsks$Worlds", "greatest", "I", false)
  | 3 => ("TwoAsks$Worlds", "values", "[J", true)
  | 4 => ("TwoAsks$Worlds", "notZero", "[I", true)
  | 5 => ("TwoAsks$Worlds", "groups", "[I", true)
  | _ => ("TwoAsks$Worlds", "leaders", "LTwoAsks$Leaders;", true)
def tyX10 : Nat → FieldType := fun k => match k with
  | 0 => .int
  | 1 => .int
  | 2 => .int
  | 3 => .array .long
  | 4 => .array .int
  | 5 => .array .int
  | _ => .object "TwoAsks$Leaders"
abbrev wsX100 : List Cond := u_ws RX10 TX10 7
theorem nmX10 : ∀ a, a < 7 → ∀ b, b < 7 → a ≠ b → (TX10 a).2.1 ≠ (TX10 b).2.1 := by decide +kernel
theorem tyX10_ok : ∀ k, k < 7 → parseFieldDescriptor (TX10 k).2.2.1 = some (tyX10 k) := by decide +kernel
abbrev cX10_init : ByteArray := prog_12_method_1_code
def yX10_init : MethodName := ⟨RX10, "<init>", "()V"⟩
abbrev cX10_settle : ByteArray := prog_12_method_2_code
def yX10_settle : MethodName := ⟨RX10, "settle", "(II)V"⟩
abbrev cX10_numberAt : ByteArray := prog_12_method_3_code
def yX10_numberAt : MethodName := ⟨RX10, "numberAt", "(II)I"⟩
abbrev cX10_comeBy : ByteArray := prog_12_method_4_code
def yX10_comeBy : MethodName := ⟨RX10, "comeBy", "(J)V"⟩
abbrev cX10_howManyComeTo : ByteArray := prog_12_method_5_code
def yX10_howManyComeTo : MethodName := ⟨RX10, "howManyComeTo", "(IJ)I"⟩
abbrev cX10_clashing : ByteArray := prog_12_method_6_code
def yX10_clashing : MethodName := ⟨RX10, "clashing", "(IZ)I"⟩
abbrev cX10_fewestNumbers : ByteArray := prog_12_method_7_code
def yX10_fewestNumbers : MethodName := ⟨RX10, "fewestNumbers", "(I)I"⟩
abbrev cX10_partGroups : ByteArray := prog_12_method_8_code
def yX10_partGroups : MethodName := ⟨RX10, "partGroups", "(II)Z"⟩
def RX11 : String := "TwoAsks"
def TX11 : u_T := fun k => match k with
  | 0 => ("TwoAsks", "tape", "[B", true)
  | 1 => ("TwoAsks", "tapeLength", "I", false)
  | 2 => ("TwoAsks", "faultPlace", "I", false)
  | 3 => ("TwoAsks", "reader", "LTwoAsks$Reader;", true)
  | 4 => ("TwoAsks", "text", "LTwoAsks$Text;", false)
  | 5 => ("TwoAsks", "told", "LTwoAsks$Told;", true)
  | 6 => ("TwoAsks", "slots", "[LTwoAsks$Told;", true)
  | 7 => ("TwoAsks", "hidden", "I", false)
  | 8 => ("TwoAsks", "asked", "I", false)
  | 9 => ("TwoAsks", "worlds", "LTwoAsks$Worlds;", true)
  | _ => ("TwoAsks", "fitting", "LTwoAsks$Fitting;", true)
def tyX11 : Nat → FieldType := fun k => match k with
  | 0 => .array .byte
  | 1 => .int
  | 2 => .int
  | 3 => .object "TwoAsks$Reader"
  | 4 => .object "TwoAsks$Text"
  | 5 => .object "TwoAsks$Told"
  | 6 => .array (.object "TwoAsks$Told")
  | 7 => .int
  | 8 => .int
  | 9 => .object "TwoAsks$Worlds"
  | _ => .object "TwoAsks$Fitting"
abbrev wsX110 : List Cond := u_ws RX11 TX11 11
theorem nmX11 : ∀ a, a < 11 → ∀ b, b < 11 → a ≠ b → (TX11 a).2.1 ≠ (TX11 b).2.1 := by decide +kernel
theorem tyX11_ok : ∀ k, k < 11 → parseFieldDescriptor (TX11 k).2.2.1 = some (tyX11 k) := by decide +kernel
abbrev cX11_init : ByteArray := prog_1_method_1_code
def yX11_init : MethodName := ⟨RX11, "<init>", "()V"⟩
abbrev cX11_begin : ByteArray := prog_1_method_2_code
def yX11_begin : MethodName := ⟨RX11, "begin", "()V"⟩
abbrev cX11_feed : ByteArray := prog_1_method_3_code
def yX11_feed : MethodName := ⟨RX11, "feed", "(IIIII)I"⟩
abbrev cX11_putFour : ByteArray := prog_1_method_4_code
def yX11_putFour : MethodName := ⟨RX11, "putFour", "(I)V"⟩
abbrev cX11_back : ByteArray := prog_1_method_5_code
def yX11_back : MethodName := ⟨RX11, "back", "(I)I"⟩
abbrev cX11_read : ByteArray := prog_1_method_6_code
def yX11_read : MethodName := ⟨RX11, "read", "()I"⟩
abbrev cX11_place : ByteArray := prog_1_method_7_code
def yX11_place : MethodName := ⟨RX11, "place", "()I"⟩
abbrev cX11_within : ByteArray := prog_1_method_8_code
def yX11_within : MethodName := ⟨RX11, "within", "(JJJ)Z"⟩
abbrev cX11_isRow : ByteArray := prog_1_method_9_code
def yX11_isRow : MethodName := ⟨RX11, "isRow", "(I)Z"⟩
abbrev cX11_areTwoRows : ByteArray := prog_1_method_10_code
def yX11_areTwoRows : MethodName := ⟨RX11, "areTwoRows", "(II)Z"⟩
abbrev cX11_row : ByteArray := prog_1_method_11_code
def yX11_row : MethodName := ⟨RX11, "row", "(II)I"⟩
abbrev cX11_comes : ByteArray := prog_1_method_12_code
def yX11_comes : MethodName := ⟨RX11, "comes", "(II)J"⟩
abbrev cX11_two : ByteArray := prog_1_method_13_code
def yX11_two : MethodName := ⟨RX11, "two", "(II)J"⟩
abbrev cX11_figuresOf : ByteArray := prog_1_method_14_code
def yX11_figuresOf : MethodName := ⟨RX11, "figuresOf", "(J)I"⟩
abbrev cX11_figure : ByteArray := prog_1_method_15_code
def yX11_figure : MethodName := ⟨RX11, "figure", "(JII)I"⟩
abbrev cX11_meets : ByteArray := prog_1_method_16_code
def yX11_meets : MethodName := ⟨RX11, "meets", "(II)I"⟩
abbrev cX11_degree : ByteArray := prog_1_method_17_code
def yX11_degree : MethodName := ⟨RX11, "degree", "(I)I"⟩
abbrev cX11_rest : ByteArray := prog_1_method_18_code
def yX11_rest : MethodName := ⟨RX11, "rest", "(II)I"⟩
abbrev cX11_alike : ByteArray := prog_1_method_19_code
def yX11_alike : MethodName := ⟨RX11, "alike", "(II)I"⟩
abbrev cX11_isSumPlace : ByteArray := prog_1_method_20_code
def yX11_isSumPlace : MethodName := ⟨RX11, "isSumPlace", "(III)Z"⟩
abbrev cX11_plus : ByteArray := prog_1_method_21_code
def yX11_plus : MethodName := ⟨RX11, "plus", "(III)I"⟩
abbrev cX11_times : ByteArray := prog_1_method_22_code
def yX11_times : MethodName := ⟨RX11, "times", "(III)I"⟩
abbrev cX11_world : ByteArray := prog_1_method_23_code
def yX11_world : MethodName := ⟨RX11, "world", "(II)I"⟩
abbrev cX11_isWorld : ByteArray := prog_1_method_24_code
def yX11_isWorld : MethodName := ⟨RX11, "isWorld", "(I)Z"⟩
abbrev cX11_clash : ByteArray := prog_1_method_25_code
def yX11_clash : MethodName := ⟨RX11, "clash", "(IZ)I"⟩
abbrev cX11_once : ByteArray := prog_1_method_26_code
def yX11_once : MethodName := ⟨RX11, "once", "()I"⟩
abbrev cX11_few : ByteArray := prog_1_method_27_code
def yX11_few : MethodName := ⟨RX11, "few", "(I)I"⟩
abbrev cX11_worldsAt : ByteArray := prog_1_method_28_code
def yX11_worldsAt : MethodName := ⟨RX11, "worldsAt", "(IJ)I"⟩
abbrev cX11_game : ByteArray := prog_1_method_29_code
def yX11_game : MethodName := ⟨RX11, "game", "(II)I"⟩
abbrev cX11_tell : ByteArray := prog_1_method_30_code
def yX11_tell : MethodName := ⟨RX11, "tell", "(IJ)I"⟩
abbrev cX11_forget : ByteArray := prog_1_method_31_code
def yX11_forget : MethodName := ⟨RX11, "forget", "()I"⟩
abbrev cX11_choose : ByteArray := prog_1_method_32_code
def yX11_choose : MethodName := ⟨RX11, "choose", "(III)Z"⟩
abbrev cX11_fits : ByteArray := prog_1_method_33_code
def yX11_fits : MethodName := ⟨RX11, "fits", "(IIII)I"⟩
abbrev cX11_sure : ByteArray := prog_1_method_34_code
def yX11_sure : MethodName := ⟨RX11, "sure", "(III)I"⟩
abbrev cX11_span : ByteArray := prog_1_method_35_code
def yX11_span : MethodName := ⟨RX11, "span", "(IIII)I"⟩
abbrev cX11_liars : ByteArray := prog_1_method_36_code
def yX11_liars : MethodName := ⟨RX11, "liars", "(III)I"⟩
abbrev cX11_next : ByteArray := prog_1_method_37_code
def yX11_next : MethodName := ⟨RX11, "next", "(IIII)I"⟩
abbrev cX11_enough : ByteArray := prog_1_method_38_code
def yX11_enough : MethodName := ⟨RX11, "enough", "(III)I"⟩
abbrev cX11_cost : ByteArray := prog_1_method_39_code
def yX11_cost : MethodName := ⟨RX11, "cost", "(I)I"⟩
abbrev cX11_hide : ByteArray := prog_1_method_40_code
def yX11_hide : MethodName := ⟨RX11, "hide", "(I)Z"⟩
abbrev cX11_ask : ByteArray := prog_1_method_41_code
def yX11_ask : MethodName := ⟨RX11, "ask", "(I)J"⟩
abbrev cX11_asks : ByteArray := prog_1_method_42_code
def yX11_asks : MethodName := ⟨RX11, "asks", "()I"⟩
abbrev cX11_isSlot : ByteArray := prog_1_method_43_code
def yX11_isSlot : MethodName := ⟨RX11, "isSlot", "(I)Z"⟩
abbrev cX11_hold : ByteArray := prog_1_method_44_code
def yX11_hold : MethodName := ⟨RX11, "hold", "(I)Z"⟩
abbrev cX11_restore : ByteArray := prog_1_method_45_code
def yX11_restore : MethodName := ⟨RX11, "restore", "(I)Z"⟩
abbrev cX11_isWeighing : ByteArray := prog_1_method_46_code
def yX11_isWeighing : MethodName := ⟨RX11, "isWeighing", "(II)Z"⟩
abbrev cX11_bad : ByteArray := prog_1_method_47_code
def yX11_bad : MethodName := ⟨RX11, "bad", "(II)I"⟩
abbrev cX11_badSet : ByteArray := prog_1_method_48_code
def yX11_badSet : MethodName := ⟨RX11, "badSet", "(II)I"⟩
abbrev cX11_allTold : ByteArray := prog_1_method_49_code
def yX11_allTold : MethodName := ⟨RX11, "allTold", "()Z"⟩
abbrev cX11_margin : ByteArray := prog_1_method_50_code
def yX11_margin : MethodName := ⟨RX11, "margin", "()I"⟩
abbrev cX11_secret : ByteArray := prog_1_method_51_code
def yX11_secret : MethodName := ⟨RX11, "secret", "(I)I"⟩
abbrev cX11_shared : ByteArray := prog_1_method_52_code
def yX11_shared : MethodName := ⟨RX11, "shared", "(II)I"⟩
abbrev cX11_shareRow : ByteArray := prog_1_method_53_code
def yX11_shareRow : MethodName := ⟨RX11, "shareRow", "(II)I"⟩
abbrev cX11_wrong : ByteArray := prog_1_method_54_code
def yX11_wrong : MethodName := ⟨RX11, "wrong", "(I)I"⟩
abbrev cX11_pair : ByteArray := prog_1_method_55_code
def yX11_pair : MethodName := ⟨RX11, "pair", "(II)J"⟩
abbrev cX11_paired : ByteArray := prog_1_method_56_code
def yX11_paired : MethodName := ⟨RX11, "paired", "(JJ)J"⟩
abbrev cX11_triangle : ByteArray := prog_1_method_57_code
def yX11_triangle : MethodName := ⟨RX11, "triangle", "(J)J"⟩
abbrev cX11_unpair : ByteArray := prog_1_method_58_code
def yX11_unpair : MethodName := ⟨RX11, "unpair", "(JZ)J"⟩
abbrev cX11_number : ByteArray := prog_1_method_59_code
def yX11_number : MethodName := ⟨RX11, "number", "(I)J"⟩
abbrev cX11_count : ByteArray := prog_1_method_60_code
def yX11_count : MethodName := ⟨RX11, "count", "(I)I"⟩
abbrev cX11_slotsThatHold : ByteArray := prog_1_method_61_code
def yX11_slotsThatHold : MethodName := ⟨RX11, "slotsThatHold", "()I"⟩
def RX12 : String := "TwoAsksModel"
def TX12 : u_T := fun k => match k with
  | 0 => ("TwoAsksModel", "thrown", "I", false)
  | 1 => ("TwoAsksModel", "tape", "[B", true)
  | 2 => ("TwoAsksModel", "taped", "I", false)
  | 3 => ("TwoAsksModel", "text", "[B", true)
  | 4 => ("TwoAsksModel", "size", "I", false)
  | 5 => ("TwoAsksModel", "tKind", "[I", true)
  | 6 => ("TwoAsksModel", "tPlace", "[I", true)
  | 7 => ("TwoAsksModel", "tValue", "[I", true)
  | 8 => ("TwoAsksModel", "tName", "[J", true)
  | 9 => ("TwoAsksModel", "keys", "[J", true)
  | 10 => ("TwoAsksModel", "tokens", "I", false)
  | 11 => ("TwoAsksModel", "t", "I", false)
  | 12 => ("TwoAsksModel", "open", "I", false)
  | 13 => ("TwoAsksModel", "fault", "I", false)
  | 14 => ("TwoAsksModel", "faultPlace", "I", false)
  | 15 => ("TwoAsksModel", "worst", "I", false)
  | 16 => ("TwoAsksModel", "worstPlace", "I", false)
  | 17 => ("TwoAsksModel", "place", "I", false)
  | 18 => ("TwoAsksModel", "live", "I", false)
  | 19 => ("TwoAsksModel", "side", "I", false)
  | 20 => ("TwoAsksModel", "names", "I", false)
  | 21 => ("TwoAsksModel", "nameOf", "[J", true)
  | 22 => ("TwoAsksModel", "rowsTold", "[I", true)
  | 23 => ("TwoAsksModel", "longOf", "[I", true)
  | 24 => ("TwoAsksModel", "placeOf", "[I", true)
  | 25 => ("TwoAsksModel", "prime", "[I", true)
  | 26 => ("TwoAsksModel", "shares", "[I", true)
  | 27 => ("TwoAsksModel", "shareAt", "[I", true)
  | 28 => ("TwoAsksModel", "shareOf", "[I", true)
  | 29 => ("TwoAsksModel", "shareToken", "[I", true)
  | 30 => ("TwoAsksModel", "bags", "[I", true)
  | 31 => ("TwoAsksModel", "coins", "[I", true)
  | 32 => ("TwoAsksModel", "worldLong", "[I", true)
  | 33 => ("TwoAsksModel", "worldMost", "[I", true)
  | 34 => ("TwoAsksModel", "liar", "[I", true)
  | 35 => ("TwoAsksModel", "lawFirst", "[I", true)
  | 36 => ("TwoAsksModel", "lawLast", "[I", true)
  | 37 => ("TwoAsksModel", "branches", "I", false)
  | 38 => ("TwoAsksModel", "hasTest", "[Z", true)
  | 39 => ("TwoAsksModel", "testFrom", "[I", true)
  | 40 => ("TwoAsksModel", "testMid", "[I", true)
  | 41 => ("TwoAsksModel", "testTo", "[I", true)
  | 42 => ("TwoAsksModel", "termTo", "[I", true)
  | 43 => ("TwoAsksModel", "codes", "I", false)
  | 44 => ("TwoAsksModel", "code", "[I", true)
  | 45 => ("TwoAsksModel", "codeInt", "[I", true)
  | 46 => ("TwoAsksModel", "waits", "[I", true)
  | 47 => ("TwoAsksModel", "waiting", "I", false)
  | 48 => ("TwoAsksModel", "variables", "[I", true)
  | 49 => ("TwoAsksModel", "pile", "[I", true)
  | 50 => ("TwoAsksModel", "isBroken", "Z", false)
  | 51 => ("TwoAsksModel", "tableKey", "[J", true)
  | 52 => ("TwoAsksModel", "tableFirst", "[I", true)
  | 53 => ("TwoAsksModel", "tableMany", "[I", true)
  | 54 => ("TwoAsksModel", "firstOf", "I", false)
  | 55 => ("TwoAsksModel", "laterOf", "I", false)
  | 56 => ("TwoAsksModel", "groupOf", "[I", true)
  | 57 => ("TwoAsksModel", "told", "I", false)
  | 58 => ("TwoAsksModel", "toldSaid", "[I", true)
  | 59 => ("TwoAsksModel", "toldAnswer", "[J", true)
  | 60 => ("TwoAsksModel", "fitsNow", "[Z", true)
  | 61 => ("TwoAsksModel", "hidden", "I", false)
  | 62 => ("TwoAsksModel", "asked", "I", false)
  | 63 => ("TwoAsksModel", "fitting", "[I", true)
  | 64 => ("TwoAsksModel", "looked", "[Z", true)
  | 65 => ("TwoAsksModel", "gameLong", "I", false)
  | 66 => ("TwoAsksModel", "gameFigures", "I", false)
  | 67 => ("TwoAsksModel", "rowOf", "[I", true)
  | 68 => ("TwoAsksModel", "product", "[I", true)
  | 69 => ("TwoAsksModel", "isHeld", "[Z", true)
  | 70 => ("TwoAsksModel", "heldMany", "[I", true)
  | 71 => ("TwoAsksModel", "heldSaid", "[I", true)
  | _ => ("TwoAsksModel", "heldAnswer", "[J", true)
def tyX12 : Nat → FieldType := fun k => match k with
  | 0 => .int
  | 1 => .array .byte
  | 2 => .int
  | 3 => .array .byte
  | 4 => .int
  | 5 => .array .int
  | 6 => .array .int
  | 7 => .array .int
  | 8 => .array .long
  | 9 => .array .long
  | 10 => .int
  | 11 => .int
  | 12 => .int
  | 13 => .int
  | 14 => .int
  | 15 => .int
  | 16 => .int
  | 17 => .int
  | 18 => .int
  | 19 => .int
  | 20 => .int
  | 21 => .array .long
  | 22 => .array .int
  | 23 => .array .int
  | 24 => .array .int
  | 25 => .array .int
  | 26 => .array .int
  | 27 => .array .int
  | 28 => .array .int
  | 29 => .array .int
  | 30 => .array .int
  | 31 => .array .int
  | 32 => .array .int
  | 33 => .array .int
  | 34 => .array .int
  | 35 => .array .int
  | 36 => .array .int
  | 37 => .int
  | 38 => .array .boolean
  | 39 => .array .int
  | 40 => .array .int
  | 41 => .array .int
  | 42 => .array .int
  | 43 => .int
  | 44 => .array .int
  | 45 => .array .int
  | 46 => .array .int
  | 47 => .int
  | 48 => .array .int
  | 49 => .array .int
  | 50 => .boolean
  | 51 => .array .long
  | 52 => .array .int
  | 53 => .array .int
  | 54 => .int
  | 55 => .int
  | 56 => .array .int
  | 57 => .int
  | 58 => .array .int
  | 59 => .array .long
  | 60 => .array .boolean
  | 61 => .int
  | 62 => .int
  | 63 => .array .int
  | 64 => .array .boolean
  | 65 => .int
  | 66 => .int
  | 67 => .array .int
  | 68 => .array .int
  | 69 => .array .boolean
  | 70 => .array .int
  | 71 => .array .int
  | _ => .array .long
abbrev wsX120 : List Cond := u_ws RX12 TX12 73
theorem nmX12 : ∀ a, a < 73 → ∀ b, b < 73 → a ≠ b → (TX12 a).2.1 ≠ (TX12 b).2.1 := by decide +kernel
theorem tyX12_ok : ∀ k, k < 73 → parseFieldDescriptor (TX12 k).2.2.1 = some (tyX12 k) := by decide +kernel
abbrev cX12_init : ByteArray := prog_14_method_2_code
def yX12_init : MethodName := ⟨RX12, "<init>", "()V"⟩
abbrev cX12_feed : ByteArray := prog_14_method_3_code
def yX12_feed : MethodName := ⟨RX12, "feed", "(IIIII)I"⟩
abbrev cX12_put : ByteArray := prog_14_method_4_code
def yX12_put : MethodName := ⟨RX12, "put", "(I)V"⟩
abbrev cX12_back : ByteArray := prog_14_method_5_code
def yX12_back : MethodName := ⟨RX12, "back", "(I)I"⟩
abbrev cX12_byteAt : ByteArray := prog_14_method_6_code
def yX12_byteAt : MethodName := ⟨RX12, "byteAt", "(I)I"⟩
abbrev cX12_isDigit : ByteArray := prog_14_method_7_code
def yX12_isDigit : MethodName := ⟨RX12, "isDigit", "(I)Z"⟩
abbrev cX12_isLetter : ByteArray := prog_14_method_8_code
def yX12_isLetter : MethodName := ⟨RX12, "isLetter", "(I)Z"⟩
abbrev cX12_appends : ByteArray := prog_14_method_9_code
def yX12_appends : MethodName := ⟨RX12, "appends", "(JI)J"⟩
abbrev cX12_word : ByteArray := prog_14_method_10_code
def yX12_word : MethodName := ⟨RX12, "word", "(IIIIIII)J"⟩
abbrev cX12_token : ByteArray := prog_14_method_11_code
def yX12_token : MethodName := ⟨RX12, "token", "(IIIJ)V"⟩
abbrev cX12_cut : ByteArray := prog_14_method_12_code
def yX12_cut : MethodName := ⟨RX12, "cut", "()V"⟩
abbrev cX12_sign : ByteArray := prog_14_method_13_code
def yX12_sign : MethodName := ⟨RX12, "sign", "(III)I"⟩
abbrev cX12_is : ByteArray := prog_14_method_14_code
def yX12_is : MethodName := ⟨RX12, "is", "(I)Z"⟩
abbrev cX12_fail : ByteArray := prog_14_method_15_code
def yX12_fail : MethodName := ⟨RX12, "fail", "(I)V"⟩
abbrev cX12_amiss : ByteArray := prog_14_method_16_code
def yX12_amiss : MethodName := ⟨RX12, "amiss", "(II)V"⟩
abbrev cX12_goesOn : ByteArray := prog_14_method_17_code
def yX12_goesOn : MethodName := ⟨RX12, "goesOn", "()V"⟩
abbrev cX12_must : ByteArray := prog_14_method_18_code
def yX12_must : MethodName := ⟨RX12, "must", "(I)V"⟩
abbrev cX12_plain : ByteArray := prog_14_method_19_code
def yX12_plain : MethodName := ⟨RX12, "plain", "(I)V"⟩
abbrev cX12_read : ByteArray := prog_14_method_20_code
def yX12_read : MethodName := ⟨RX12, "read", "()I"⟩
abbrev cX12_place : ByteArray := prog_14_method_21_code
def yX12_place : MethodName := ⟨RX12, "place", "()I"⟩
abbrev cX12_roomFor : ByteArray := prog_14_method_22_code
def yX12_roomFor : MethodName := ⟨RX12, "roomFor", "(II)V"⟩
abbrev cX12_tell : ByteArray := prog_14_method_23_code
def yX12_tell : MethodName := ⟨RX12, "tell", "()V"⟩
abbrev cX12_bounded : ByteArray := prog_14_method_24_code
def yX12_bounded : MethodName := ⟨RX12, "bounded", "(II)I"⟩
abbrev cX12_named : ByteArray := prog_14_method_25_code
def yX12_named : MethodName := ⟨RX12, "named", "()I"⟩
abbrev cX12_notes : ByteArray := prog_14_method_26_code
def yX12_notes : MethodName := ⟨RX12, "notes", "(I)V"⟩
abbrev cX12_tellRow : ByteArray := prog_14_method_27_code
def yX12_tellRow : MethodName := ⟨RX12, "tellRow", "()V"⟩
abbrev cX12_tellList : ByteArray := prog_14_method_28_code
def yX12_tellList : MethodName := ⟨RX12, "tellList", "()V"⟩
abbrev cX12_tellPrime : ByteArray := prog_14_method_29_code
def yX12_tellPrime : MethodName := ⟨RX12, "tellPrime", "()V"⟩
abbrev cX12_tellShare : ByteArray := prog_14_method_30_code
def yX12_tellShare : MethodName := ⟨RX12, "tellShare", "()V"⟩
abbrev cX12_tellLaw : ByteArray := prog_14_method_31_code
def yX12_tellLaw : MethodName := ⟨RX12, "tellLaw", "(I)V"⟩
abbrev cX12_term : ByteArray := prog_14_method_32_code
def yX12_term : MethodName := ⟨RX12, "term", "()V"⟩
abbrev cX12_emit : ByteArray := prog_14_method_33_code
def yX12_emit : MethodName := ⟨RX12, "emit", "(II)V"⟩
abbrev cX12_comesOut : ByteArray := prog_14_method_34_code
def yX12_comesOut : MethodName := ⟨RX12, "comesOut", "(Z)V"⟩
abbrev cX12_expression : ByteArray := prog_14_method_35_code
def yX12_expression : MethodName := ⟨RX12, "expression", "()V"⟩
abbrev cX12_unit : ByteArray := prog_14_method_36_code
def yX12_unit : MethodName := ⟨RX12, "unit", "()V"⟩
abbrev cX12_termOf : ByteArray := prog_14_method_37_code
def yX12_termOf : MethodName := ⟨RX12, "termOf", "(II)I"⟩
abbrev cX12_in : ByteArray := prog_14_method_38_code
def yX12_in : MethodName := ⟨RX12, "in", "(JJJ)Z"⟩
abbrev cX12_tellsBy : ByteArray := prog_14_method_39_code
def yX12_tellsBy : MethodName := ⟨RX12, "tellsBy", "(I)I"⟩
abbrev cX12_isRow : ByteArray := prog_14_method_40_code
def yX12_isRow : MethodName := ⟨RX12, "isRow", "(I)Z"⟩
abbrev cX12_longAt : ByteArray := prog_14_method_41_code
def yX12_longAt : MethodName := ⟨RX12, "longAt", "(I)I"⟩
abbrev cX12_at : ByteArray := prog_14_method_42_code
def yX12_at : MethodName := ⟨RX12, "at", "(II)I"⟩
abbrev cX12_row : ByteArray := prog_14_method_43_code
def yX12_row : MethodName := ⟨RX12, "row", "(II)I"⟩
abbrev cX12_comesBy : ByteArray := prog_14_method_44_code
def yX12_comesBy : MethodName := ⟨RX12, "comesBy", "(IJ)J"⟩
abbrev cX12_comes : ByteArray := prog_14_method_45_code
def yX12_comes : MethodName := ⟨RX12, "comes", "(II)J"⟩
abbrev cX12_isBelow : ByteArray := prog_14_method_46_code
def yX12_isBelow : MethodName := ⟨RX12, "isBelow", "(I)Z"⟩
abbrev cX12_figures : ByteArray := prog_14_method_47_code
def yX12_figures : MethodName := ⟨RX12, "figures", "(J)I"⟩
abbrev cX12_two : ByteArray := prog_14_method_48_code
def yX12_two : MethodName := ⟨RX12, "two", "(II)J"⟩
abbrev cX12_figure : ByteArray := prog_14_method_49_code
def yX12_figure : MethodName := ⟨RX12, "figure", "(JII)I"⟩
abbrev cX12_placeAt : ByteArray := prog_14_method_50_code
def yX12_placeAt : MethodName := ⟨RX12, "placeAt", "(II)I"⟩
abbrev cX12_areRows : ByteArray := prog_14_method_51_code
def yX12_areRows : MethodName := ⟨RX12, "areRows", "(III)Z"⟩
abbrev cX12_plus : ByteArray := prog_14_method_52_code
def yX12_plus : MethodName := ⟨RX12, "plus", "(III)I"⟩
abbrev cX12_times : ByteArray := prog_14_method_53_code
def yX12_times : MethodName := ⟨RX12, "times", "(III)I"⟩
abbrev cX12_degree : ByteArray := prog_14_method_54_code
def yX12_degree : MethodName := ⟨RX12, "degree", "(I)I"⟩
abbrev cX12_restBy : ByteArray := prog_14_method_55_code
def yX12_restBy : MethodName := ⟨RX12, "restBy", "(II)I"⟩
abbrev cX12_rest : ByteArray := prog_14_method_56_code
def yX12_rest : MethodName := ⟨RX12, "rest", "(II)I"⟩
abbrev cX12_alike : ByteArray := prog_14_method_57_code
def yX12_alike : MethodName := ⟨RX12, "alike", "(II)I"⟩
abbrev cX12_meets : ByteArray := prog_14_method_58_code
def yX12_meets : MethodName := ⟨RX12, "meets", "(II)I"⟩
abbrev cX12_worldAll : ByteArray := prog_14_method_59_code
def yX12_worldAll : MethodName := ⟨RX12, "worldAll", "()I"⟩
abbrev cX12_figureOf : ByteArray := prog_14_method_60_code
def yX12_figureOf : MethodName := ⟨RX12, "figureOf", "(II)I"⟩
abbrev cX12_worldComes : ByteArray := prog_14_method_61_code
def yX12_worldComes : MethodName := ⟨RX12, "worldComes", "(IJ)J"⟩
abbrev cX12_clears : ByteArray := prog_14_method_62_code
def yX12_clears : MethodName := ⟨RX12, "clears", "()V"⟩
abbrev cX12_keyAt : ByteArray := prog_14_method_63_code
def yX12_keyAt : MethodName := ⟨RX12, "keyAt", "(JI)I"⟩
abbrev cX12_clashes : ByteArray := prog_14_method_64_code
def yX12_clashes : MethodName := ⟨RX12, "clashes", "(I)Z"⟩
abbrev cX12_clash : ByteArray := prog_14_method_65_code
def yX12_clash : MethodName := ⟨RX12, "clash", "(IZ)I"⟩
abbrev cX12_world : ByteArray := prog_14_method_66_code
def yX12_world : MethodName := ⟨RX12, "world", "(II)I"⟩
abbrev cX12_once : ByteArray := prog_14_method_67_code
def yX12_once : MethodName := ⟨RX12, "once", "()I"⟩
abbrev cX12_fullPlaces : ByteArray := prog_14_method_68_code
def yX12_fullPlaces : MethodName := ⟨RX12, "fullPlaces", "(I)I"⟩
abbrev cX12_few : ByteArray := prog_14_method_69_code
def yX12_few : MethodName := ⟨RX12, "few", "(I)I"⟩
abbrev cX12_tell_ : ByteArray := prog_14_method_70_code
def yX12_tell_ : MethodName := ⟨RX12, "tell", "(IJ)I"⟩
abbrev cX12_forget : ByteArray := prog_14_method_71_code
def yX12_forget : MethodName := ⟨RX12, "forget", "()I"⟩
abbrev cX12_isRight : ByteArray := prog_14_method_72_code
def yX12_isRight : MethodName := ⟨RX12, "isRight", "(II)Z"⟩
abbrev cX12_isFit : ByteArray := prog_14_method_73_code
def yX12_isFit : MethodName := ⟨RX12, "isFit", "(IIII)Z"⟩
abbrev cX12_isAsked : ByteArray := prog_14_method_74_code
def yX12_isAsked : MethodName := ⟨RX12, "isAsked", "(III)Z"⟩
abbrev cX12_fillsFits : ByteArray := prog_14_method_75_code
def yX12_fillsFits : MethodName := ⟨RX12, "fillsFits", "(III)I"⟩
abbrev cX12_fits : ByteArray := prog_14_method_76_code
def yX12_fits : MethodName := ⟨RX12, "fits", "(IIII)I"⟩
abbrev cX12_spanOf : ByteArray := prog_14_method_77_code
def yX12_spanOf : MethodName := ⟨RX12, "spanOf", "(I)I"⟩
abbrev cX12_sure : ByteArray := prog_14_method_78_code
def yX12_sure : MethodName := ⟨RX12, "sure", "(III)I"⟩
abbrev cX12_span : ByteArray := prog_14_method_79_code
def yX12_span : MethodName := ⟨RX12, "span", "(IIII)I"⟩
abbrev cX12_liars : ByteArray := prog_14_method_80_code
def yX12_liars : MethodName := ⟨RX12, "liars", "(III)I"⟩
abbrev cX12_next : ByteArray := prog_14_method_81_code
def yX12_next : MethodName := ⟨RX12, "next", "(IIII)I"⟩
abbrev cX12_worldsAt : ByteArray := prog_14_method_82_code
def yX12_worldsAt : MethodName := ⟨RX12, "worldsAt", "(IJ)I"⟩
abbrev cX12_cost : ByteArray := prog_14_method_83_code
def yX12_cost : MethodName := ⟨RX12, "cost", "(I)I"⟩
abbrev cX12_hide : ByteArray := prog_14_method_84_code
def yX12_hide : MethodName := ⟨RX12, "hide", "(I)Z"⟩
abbrev cX12_ask : ByteArray := prog_14_method_85_code
def yX12_ask : MethodName := ⟨RX12, "ask", "(I)J"⟩
abbrev cX12_asksAfter : ByteArray := prog_14_method_86_code
def yX12_asksAfter : MethodName := ⟨RX12, "asksAfter", "(IJI)I"⟩
abbrev cX12_asks : ByteArray := prog_14_method_87_code
def yX12_asks : MethodName := ⟨RX12, "asks", "()I"⟩
abbrev cX12_isOneEnough : ByteArray := prog_14_method_88_code
def yX12_isOneEnough : MethodName := ⟨RX12, "isOneEnough", "(I)Z"⟩
abbrev cX12_areTwoEnough : ByteArray := prog_14_method_89_code
def yX12_areTwoEnough : MethodName := ⟨RX12, "areTwoEnough", "(I)Z"⟩
abbrev cX12_enough : ByteArray := prog_14_method_90_code
def yX12_enough : MethodName := ⟨RX12, "enough", "(III)I"⟩
abbrev cX12_plays : ByteArray := prog_14_method_91_code
def yX12_plays : MethodName := ⟨RX12, "plays", "(I)V"⟩
abbrev cX12_game : ByteArray := prog_14_method_92_code
def yX12_game : MethodName := ⟨RX12, "game", "(II)I"⟩
abbrev cX12_sumOf : ByteArray := prog_14_method_93_code
def yX12_sumOf : MethodName := ⟨RX12, "sumOf", "(I)I"⟩
abbrev cX12_bad : ByteArray := prog_14_method_94_code
def yX12_bad : MethodName := ⟨RX12, "bad", "(II)I"⟩
abbrev cX12_badSet : ByteArray := prog_14_method_95_code
def yX12_badSet : MethodName := ⟨RX12, "badSet", "(II)I"⟩
abbrev cX12_allTold : ByteArray := prog_14_method_96_code
def yX12_allTold : MethodName := ⟨RX12, "allTold", "()Z"⟩
abbrev cX12_margin : ByteArray := prog_14_method_97_code
def yX12_margin : MethodName := ⟨RX12, "margin", "()I"⟩
abbrev cX12_bits : ByteArray := prog_14_method_98_code
def yX12_bits : MethodName := ⟨RX12, "bits", "(I)I"⟩
abbrev cX12_restOf : ByteArray := prog_14_method_99_code
def yX12_restOf : MethodName := ⟨RX12, "restOf", "(I)I"⟩
abbrev cX12_turned : ByteArray := prog_14_method_100_code
def yX12_turned : MethodName := ⟨RX12, "turned", "(I)I"⟩
abbrev cX12_rowComes : ByteArray := prog_14_method_101_code
def yX12_rowComes : MethodName := ⟨RX12, "rowComes", "(II)I"⟩
abbrev cX12_isSet : ByteArray := prog_14_method_102_code
def yX12_isSet : MethodName := ⟨RX12, "isSet", "(I)Z"⟩
abbrev cX12_secret : ByteArray := prog_14_method_103_code
def yX12_secret : MethodName := ⟨RX12, "secret", "(I)I"⟩
abbrev cX12_shared : ByteArray := prog_14_method_104_code
def yX12_shared : MethodName := ⟨RX12, "shared", "(II)I"⟩
abbrev cX12_fillsRow : ByteArray := prog_14_method_105_code
def yX12_fillsRow : MethodName := ⟨RX12, "fillsRow", "(I)V"⟩
abbrev cX12_shareRow : ByteArray := prog_14_method_106_code
def yX12_shareRow : MethodName := ⟨RX12, "shareRow", "(II)I"⟩
abbrev cX12_wrong : ByteArray := prog_14_method_107_code
def yX12_wrong : MethodName := ⟨RX12, "wrong", "(I)I"⟩
abbrev cX12_paired : ByteArray := prog_14_method_108_code
def yX12_paired : MethodName := ⟨RX12, "paired", "(JJ)J"⟩
abbrev cX12_pair : ByteArray := prog_14_method_109_code
def yX12_pair : MethodName := ⟨RX12, "pair", "(II)J"⟩
abbrev cX12_unpair : ByteArray := prog_14_method_110_code
def yX12_unpair : MethodName := ⟨RX12, "unpair", "(JZ)J"⟩
abbrev cX12_number : ByteArray := prog_14_method_111_code
def yX12_number : MethodName := ⟨RX12, "number", "(I)J"⟩
abbrev cX12_hold : ByteArray := prog_14_method_112_code
def yX12_hold : MethodName := ⟨RX12, "hold", "(I)Z"⟩
abbrev cX12_restore : ByteArray := prog_14_method_113_code
def yX12_restore : MethodName := ⟨RX12, "restore", "(I)Z"⟩
abbrev cX12_count : ByteArray := prog_14_method_114_code
def yX12_count : MethodName := ⟨RX12, "count", "(I)I"⟩
def RJx145de : String := "java/io/Serializable"
def TJx145de : u_T := fun k => match k with
  | _ => ("", "", "", false)
def tyJx145de : Nat → FieldType := fun k => match k with
  | _ => .int
abbrev wsJx145de0 : List Cond := u_ws RJx145de TJx145de 0
theorem nmJx145de : ∀ a, a < 0 → ∀ b, b < 0 → a ≠ b → (TJx145de a).2.1 ≠ (TJx145de b).2.1 := by decide +kernel
theorem tyJx145de_ok : ∀ k, k < 0 → parseFieldDescriptor (TJx145de k).2.2.1 = some (tyJx145de k) := by decide +kernel
def RJx9f9b0 : String := "java/lang/CharSequence"
def TJx9f9b0 : u_T := fun k => match k with
  | _ => ("", "", "", false)
def tyJx9f9b0 : Nat → FieldType := fun k => match k with
  | _ => .int
abbrev wsJx9f9b00 : List Cond := u_ws RJx9f9b0 TJx9f9b0 0
theorem nmJx9f9b0 : ∀ a, a < 0 → ∀ b, b < 0 → a ≠ b → (TJx9f9b0 a).2.1 ≠ (TJx9f9b0 b).2.1 := by decide +kernel
theorem tyJx9f9b0_ok : ∀ k, k < 0 → parseFieldDescriptor (TJx9f9b0 k).2.2.1 = some (tyJx9f9b0 k) := by decide +kernel
def RJxb160c : String := "java/lang/Comparable"
def TJxb160c : u_T := fun k => match k with
  | _ => ("", "", "", false)
def tyJxb160c : Nat → FieldType := fun k => match k with
  | _ => .int
abbrev wsJxb160c0 : List Cond := u_ws RJxb160c TJxb160c 0
theorem nmJxb160c : ∀ a, a < 0 → ∀ b, b < 0 → a ≠ b → (TJxb160c a).2.1 ≠ (TJxb160c b).2.1 := by decide +kernel
theorem tyJxb160c_ok : ∀ k, k < 0 → parseFieldDescriptor (TJxb160c k).2.2.1 = some (tyJxb160c k) := by decide +kernel
def RJ6 : String := "java/lang/Integer"
def TJ6 : u_T := fun k => match k with
  | _ => ("", "", "", false)
def tyJ6 : Nat → FieldType := fun k => match k with
  | _ => .int
abbrev wsJ60 : List Cond := u_ws RJ6 TJ6 0
theorem nmJ6 : ∀ a, a < 0 → ∀ b, b < 0 → a ≠ b → (TJ6 a).2.1 ≠ (TJ6 b).2.1 := by decide +kernel
theorem tyJ6_ok : ∀ k, k < 0 → parseFieldDescriptor (TJ6 k).2.2.1 = some (tyJ6 k) := by decide +kernel
abbrev cJ6_bitCount_0f7a4 : ByteArray := prog_15_method_49_code
def yJ6_bitCount_0f7a4 : MethodName := ⟨RJ6, "bitCount", "(I)I"⟩
def RJ9 : String := "java/lang/Math"
def TJ9 : u_T := fun k => match k with
  | _ => ("", "", "", false)
def tyJ9 : Nat → FieldType := fun k => match k with
  | _ => .int
abbrev wsJ90 : List Cond := u_ws RJ9 TJ9 0
theorem nmJ9 : ∀ a, a < 0 → ∀ b, b < 0 → a ≠ b → (TJ9 a).2.1 ≠ (TJ9 b).2.1 := by decide +kernel
theorem tyJ9_ok : ∀ k, k < 0 → parseFieldDescriptor (TJ9 k).2.2.1 = some (tyJ9 k) := by decide +kernel
abbrev cJ9_floorMod_f86c9 : ByteArray := prog_16_method_52_code
def yJ9_floorMod_f86c9 : MethodName := ⟨RJ9, "floorMod", "(JJ)J"⟩
abbrev cJ9_abs_067f4 : ByteArray := prog_16_method_61_code
def yJ9_abs_067f4 : MethodName := ⟨RJ9, "abs", "(J)J"⟩
abbrev cJ9_max_7cf53 : ByteArray := prog_16_method_65_code
def yJ9_max_7cf53 : MethodName := ⟨RJ9, "max", "(II)I"⟩
abbrev cJ9_min_7cf53 : ByteArray := prog_16_method_69_code
def yJ9_min_7cf53 : MethodName := ⟨RJ9, "min", "(II)I"⟩
def RJ0 : String := "java/lang/String"
def TJ0 : u_T := fun k => match k with
  | _ => ("", "", "", false)
def tyJ0 : Nat → FieldType := fun k => match k with
  | _ => .int
abbrev wsJ00 : List Cond := u_ws RJ0 TJ0 0
theorem nmJ0 : ∀ a, a < 0 → ∀ b, b < 0 → a ≠ b → (TJ0 a).2.1 ≠ (TJ0 b).2.1 := by decide +kernel
theorem tyJ0_ok : ∀ k, k < 0 → parseFieldDescriptor (TJ0 k).2.2.1 = some (tyJ0 k) := by decide +kernel
abbrev cJ0_length_8abf5 : ByteArray := prog_17_method_54_code
def yJ0_length_8abf5 : MethodName := ⟨RJ0, "length", "()I"⟩
abbrev cJ0_charAt_5068e : ByteArray := prog_17_method_56_code
def yJ0_charAt_5068e : MethodName := ⟨RJ0, "charAt", "(I)C"⟩
abbrev cJ0_coder_7d493 : ByteArray := prog_17_method_152_code
def yJ0_coder_7d493 : MethodName := ⟨RJ0, "coder", "()B"⟩
abbrev cJ0_isLatin1_aae02 : ByteArray := prog_17_method_154_code
def yJ0_isLatin1_aae02 : MethodName := ⟨RJ0, "isLatin1", "()Z"⟩
abbrev cJ0_checkIndex_df160 : ByteArray := prog_17_method_155_code
def yJ0_checkIndex_df160 : MethodName := ⟨RJ0, "checkIndex", "(II)V"⟩
def RJ1 : String := "java/lang/StringLatin1"
def TJ1 : u_T := fun k => match k with
  | _ => ("", "", "", false)
def tyJ1 : Nat → FieldType := fun k => match k with
  | _ => .int
abbrev wsJ10 : List Cond := u_ws RJ1 TJ1 0
theorem nmJ1 : ∀ a, a < 0 → ∀ b, b < 0 → a ≠ b → (TJ1 a).2.1 ≠ (TJ1 b).2.1 := by decide +kernel
theorem tyJ1_ok : ∀ k, k < 0 → parseFieldDescriptor (TJ1 k).2.2.1 = some (tyJ1 k) := by decide +kernel
abbrev cJ1_charAt_3b067 : ByteArray := prog_18_method_2_code
def yJ1_charAt_3b067 : MethodName := ⟨RJ1, "charAt", "([BI)C"⟩
def RJ2 : String := "java/lang/StringUTF16"
def TJ2 : u_T := fun k => match k with
  | _ => ("", "", "", false)
def tyJ2 : Nat → FieldType := fun k => match k with
  | _ => .int
abbrev wsJ20 : List Cond := u_ws RJ2 TJ2 0
theorem nmJ2 : ∀ a, a < 0 → ∀ b, b < 0 → a ≠ b → (TJ2 a).2.1 ≠ (TJ2 b).2.1 := by decide +kernel
theorem tyJ2_ok : ∀ k, k < 0 → parseFieldDescriptor (TJ2 k).2.2.1 = some (tyJ2 k) := by decide +kernel
abbrev cJ2_getChar_3b067 : ByteArray := prog_19_method_5_code
def yJ2_getChar_3b067 : MethodName := ⟨RJ2, "getChar", "([BI)C"⟩
abbrev cJ2_length_9d52b : ByteArray := prog_19_method_6_code
def yJ2_length_9d52b : MethodName := ⟨RJ2, "length", "([B)I"⟩
abbrev cJ2_charAt_3b067 : ByteArray := prog_19_method_83_code
def yJ2_charAt_3b067 : MethodName := ⟨RJ2, "charAt", "([BI)C"⟩
abbrev cJ2_checkIndex_2214a : ByteArray := prog_19_method_91_code
def yJ2_checkIndex_2214a : MethodName := ⟨RJ2, "checkIndex", "(I[B)V"⟩
def RJ10 : String := "java/lang/System"
def TJ10 : u_T := fun k => match k with
  | _ => ("", "", "", false)
def tyJ10 : Nat → FieldType := fun k => match k with
  | _ => .int
abbrev wsJ100 : List Cond := u_ws RJ10 TJ10 0
theorem nmJ10 : ∀ a, a < 0 → ∀ b, b < 0 → a ≠ b → (TJ10 a).2.1 ≠ (TJ10 b).2.1 := by decide +kernel
theorem tyJ10_ok : ∀ k, k < 0 → parseFieldDescriptor (TJ10 k).2.2.1 = some (tyJ10 k) := by decide +kernel
def RJxfd54e : String := "java/lang/constant/Constable"
def TJxfd54e : u_T := fun k => match k with
  | _ => ("", "", "", false)
def tyJxfd54e : Nat → FieldType := fun k => match k with
  | _ => .int
abbrev wsJxfd54e0 : List Cond := u_ws RJxfd54e TJxfd54e 0
theorem nmJxfd54e : ∀ a, a < 0 → ∀ b, b < 0 → a ≠ b → (TJxfd54e a).2.1 ≠ (TJxfd54e b).2.1 := by decide +kernel
theorem tyJxfd54e_ok : ∀ k, k < 0 → parseFieldDescriptor (TJxfd54e k).2.2.1 = some (tyJxfd54e k) := by decide +kernel
def RJx3cf43 : String := "java/lang/constant/ConstantDesc"
def TJx3cf43 : u_T := fun k => match k with
  | _ => ("", "", "", false)
def tyJx3cf43 : Nat → FieldType := fun k => match k with
  | _ => .int
abbrev wsJx3cf430 : List Cond := u_ws RJx3cf43 TJx3cf43 0
theorem nmJx3cf43 : ∀ a, a < 0 → ∀ b, b < 0 → a ≠ b → (TJx3cf43 a).2.1 ≠ (TJx3cf43 b).2.1 := by decide +kernel
theorem tyJx3cf43_ok : ∀ k, k < 0 → parseFieldDescriptor (TJx3cf43 k).2.2.1 = some (tyJx3cf43 k) := by decide +kernel
def RJ7 : String := "java/util/Arrays"
def TJ7 : u_T := fun k => match k with
  | _ => ("", "", "", false)
def tyJ7 : Nat → FieldType := fun k => match k with
  | _ => .int
abbrev wsJ70 : List Cond := u_ws RJ7 TJ7 0
theorem nmJ7 : ∀ a, a < 0 → ∀ b, b < 0 → a ≠ b → (TJ7 a).2.1 ≠ (TJ7 b).2.1 := by decide +kernel
theorem tyJ7_ok : ∀ k, k < 0 → parseFieldDescriptor (TJ7 k).2.2.1 = some (tyJ7 k) := by decide +kernel
abbrev cJ7_rangeCheck_23922 : ByteArray := prog_21_method_30_code
def yJ7_rangeCheck_23922 : MethodName := ⟨RJ7, "rangeCheck", "(III)V"⟩
abbrev cJ7_fill_53178 : ByteArray := prog_21_method_103_code
def yJ7_fill_53178 : MethodName := ⟨RJ7, "fill", "([II)V"⟩
abbrev cJ7_fill_fda19 : ByteArray := prog_21_method_104_code
def yJ7_fill_fda19 : MethodName := ⟨RJ7, "fill", "([IIII)V"⟩
abbrev cJ7_fill_031fb : ByteArray := prog_21_method_109_code
def yJ7_fill_031fb : MethodName := ⟨RJ7, "fill", "([BB)V"⟩
def RJ3 : String := "jdk/internal/util/Preconditions"
def TJ3 : u_T := fun k => match k with
  | _ => ("", "", "", false)
def tyJ3 : Nat → FieldType := fun k => match k with
  | _ => .int
abbrev wsJ30 : List Cond := u_ws RJ3 TJ3 0
theorem nmJ3 : ∀ a, a < 0 → ∀ b, b < 0 → a ≠ b → (TJ3 a).2.1 ≠ (TJ3 b).2.1 := by decide +kernel
theorem tyJ3_ok : ∀ k, k < 0 → parseFieldDescriptor (TJ3 k).2.2.1 = some (tyJ3 k) := by decide +kernel
abbrev cJ3_checkIndex_8e157 : ByteArray := prog_22_method_11_code
def yJ3_checkIndex_8e157 : MethodName := ⟨RJ3, "checkIndex", "(IILjava/util/function/BiFunction;)I"⟩
def RL : String := "TwoAsksLaw"
abbrev cL_law : ByteArray := code
def yL_law : MethodName := ⟨RL, "law", "([I)Z"⟩
noncomputable def wsL_law_r1 : List Cond := [Cond.classLink RL 7 RX11, Cond.instantiable RX11 11, Cond.initialized RX11, Cond.classLink RL 10 RX12, Cond.instantiable RX12 73, Cond.initialized RX12, Cond.constantLong RL 46 (4294967295), Cond.methodLink RL 9 yX11_init, Cond.instanceMethod yX11_init, Cond.code yX11_init cX11_init 2 none, Cond.methodLink RX11 1 objectInit, Cond.instanceMethod objectInit, Cond.code objectInit ⟨#[0xb1]⟩ 1 none, Cond.arrayClass .byte, Cond.fieldLink RX11 9 "TwoAsks" "tape" "[B", Cond.fieldLink RX11 13 "TwoAsks" "tapeLength" "I", Cond.fieldLink RX11 17 "TwoAsks" "faultPlace" "I", Cond.classLink RX11 20 RX5, Cond.instantiable RX5 7, Cond.initialized RX5, Cond.fieldLink RX11 23 "TwoAsks" "reader" "LTwoAsks$Reader;", Cond.classLink RX11 27 RX7, Cond.instantiable RX7 10, Cond.initialized RX7]
noncomputable def wsL_law_r2 : List Cond := [Cond.fieldLink RX11 30 "TwoAsks" "text" "LTwoAsks$Text;", Cond.classLink RX11 34 RX9, Cond.instantiable RX9 4, Cond.initialized RX9, Cond.fieldLink RX11 37 "TwoAsks" "told" "LTwoAsks$Told;", Cond.fieldLink RX11 41 "TwoAsks" "slots" "[LTwoAsks$Told;", Cond.fieldLink RX11 45 "TwoAsks" "hidden" "I", Cond.fieldLink RX11 48 "TwoAsks" "asked" "I", Cond.classLink RX11 51 RX10, Cond.instantiable RX10 7, Cond.initialized RX10, Cond.fieldLink RX11 54 "TwoAsks" "worlds" "LTwoAsks$Worlds;", Cond.classLink RX11 58 RX1, Cond.instantiable RX1 7, Cond.initialized RX1, Cond.fieldLink RX11 63 "TwoAsks" "fitting" "LTwoAsks$Fitting;", Cond.instanceMethod yX5_init, Cond.code yX5_init cX5_init 1 none, Cond.methodLink RX5 3 objectInit, Cond.fieldLink RX5 9 "TwoAsks$Reader" "faultPlace" "I", Cond.fieldLink RX5 15 "TwoAsks$Reader" "fault" "I", Cond.fieldLink RX5 18 "TwoAsks$Reader" "at" "I", Cond.fieldLink RX5 21 "TwoAsks$Reader" "rowSize" "I", Cond.classLink RX5 24 RX7]
noncomputable def wsL_law_r3 : List Cond := [Cond.fieldLink RX5 27 "TwoAsks$Reader" "draft" "LTwoAsks$Text;", Cond.classLink RX5 31 RX8, Cond.instantiable RX8 5, Cond.initialized RX8, Cond.fieldLink RX5 34 "TwoAsks$Reader" "tokens" "LTwoAsks$Tokens;", Cond.classLink RX5 38 RX3, Cond.instantiable RX3 10, Cond.initialized RX3, Cond.fieldLink RX5 41 "TwoAsks$Reader" "laws" "LTwoAsks$LawReader;", Cond.methodLink RX5 26 yX7_init, Cond.instanceMethod yX7_init, Cond.code yX7_init cX7_init 1 none, Cond.methodLink RX7 1 objectInit, Cond.fieldLink RX7 7 "TwoAsks$Text" "rows" "I", Cond.arrayClass .int, Cond.fieldLink RX7 13 "TwoAsks$Text" "sizes" "[I", Cond.arrayClass .long, Cond.fieldLink RX7 17 "TwoAsks$Text" "names" "[J", Cond.fieldLink RX7 21 "TwoAsks$Text" "numbers" "[I", Cond.classLink RX7 24 RX2, Cond.instantiable RX2 5, Cond.initialized RX2, Cond.fieldLink RX7 27 "TwoAsks$Text" "ask" "LTwoAsks$Law;", Cond.classLink RX7 31 RX6]
noncomputable def wsL_law_r4 : List Cond := [Cond.instantiable RX6 7, Cond.initialized RX6, Cond.fieldLink RX7 34 "TwoAsks$Text" "shares" "LTwoAsks$Shares;", Cond.classLink RX7 38 RX0, Cond.instantiable RX0 3, Cond.initialized RX0, Cond.fieldLink RX7 41 "TwoAsks$Text" "bags" "LTwoAsks$Bags;", Cond.fieldLink RX7 45 "TwoAsks$Text" "worldPlaces" "I", Cond.fieldLink RX7 48 "TwoAsks$Text" "greatest" "I", Cond.fieldLink RX7 51 "TwoAsks$Text" "liar" "I", Cond.instanceMethod yX2_init, Cond.code yX2_init cX2_init 1 none, Cond.methodLink RX2 7 objectInit, Cond.fieldLink RX2 15 "TwoAsks$Law" "steps" "[I", Cond.fieldLink RX2 19 "TwoAsks$Law" "values" "[I", Cond.fieldLink RX2 22 "TwoAsks$Law" "many" "I", Cond.fieldLink RX2 26 "TwoAsks$Law" "looks" "[I", Cond.fieldLink RX2 29 "TwoAsks$Law" "stack" "[I", Cond.instanceMethod yX6_init, Cond.code yX6_init cX6_init 1 none, Cond.methodLink RX6 1 objectInit, Cond.fieldLink RX6 7 "TwoAsks$Shares" "many" "I", Cond.fieldLink RX6 13 "TwoAsks$Shares" "prime" "I", Cond.fieldLink RX6 16 "TwoAsks$Shares" "ats" "[I"]
noncomputable def wsL_law_r5 : List Cond := [Cond.fieldLink RX6 20 "TwoAsks$Shares" "starts" "[I", Cond.fieldLink RX6 23 "TwoAsks$Shares" "whats" "[I", Cond.fieldLink RX6 28 "TwoAsks$Shares" "row" "[I", Cond.fieldLink RX6 31 "TwoAsks$Shares" "product" "[I", Cond.instanceMethod yX0_init, Cond.code yX0_init cX0_init 1 none, Cond.methodLink RX0 3 objectInit, Cond.fieldLink RX0 9 "TwoAsks$Bags" "many" "I", Cond.fieldLink RX0 15 "TwoAsks$Bags" "coins" "[I", Cond.fieldLink RX0 19 "TwoAsks$Bags" "marks" "[B", Cond.methodLink RX7 54 yX7_clear, Cond.instanceMethod yX7_clear, Cond.selects RX7 yX7_clear yX7_clear, Cond.code yX7_clear cX7_clear 1 none, Cond.methodLink RX7 57 yX2_clear, Cond.instanceMethod yX2_clear, Cond.selects RX2 yX2_clear yX2_clear, Cond.code yX2_clear cX2_clear 1 none, Cond.methodLink RX7 58 yX2_add, Cond.instanceMethod yX2_add, Cond.selects RX2 yX2_add yX2_add, Cond.code yX2_add cX2_add 3 (some .int), Cond.methodLink RX7 62 yX6_clear, Cond.instanceMethod yX6_clear]
noncomputable def wsL_law_r6 : List Cond := [Cond.selects RX6 yX6_clear yX6_clear, Cond.code yX6_clear cX6_clear 1 none, Cond.methodLink RX7 63 yX0_clear, Cond.instanceMethod yX0_clear, Cond.selects RX0 yX0_clear yX0_clear, Cond.code yX0_clear cX0_clear 1 none, Cond.methodLink RX5 33 yX8_init, Cond.instanceMethod yX8_init, Cond.code yX8_init cX8_init 6 none, Cond.methodLink RX8 1 objectInit, Cond.fieldLink RX8 9 "TwoAsks$Tokens" "kinds" "[I", Cond.fieldLink RX8 13 "TwoAsks$Tokens" "starts" "[I", Cond.fieldLink RX8 16 "TwoAsks$Tokens" "values" "[J", Cond.fieldLink RX8 20 "TwoAsks$Tokens" "words" "[J", Cond.fieldLink RX8 23 "TwoAsks$Tokens" "many" "I", Cond.methodLink RX8 27 yX8_wordText, Cond.static yX8_wordText, Cond.code yX8_wordText cX8_wordText 1 (some (.object "java/lang/String")), Cond.methodLink RX8 31 yJ0_length_8abf5, Cond.instanceMethod yJ0_length_8abf5, Cond.selects RJ0 yJ0_length_8abf5 yJ0_length_8abf5, Cond.initialized RJ0, Cond.code yJ0_length_8abf5 cJ0_length_8abf5 1 (some .int), Cond.fieldLink RJ0 9 "java/lang/String" "value" "[B"]
noncomputable def wsL_law_r7 : List Cond := [Cond.methodLink RJ0 335 yJ0_coder_7d493, Cond.instanceMethod yJ0_coder_7d493, Cond.selects RJ0 yJ0_coder_7d493 yJ0_coder_7d493, Cond.code yJ0_coder_7d493 cJ0_coder_7d493 1 (some .byte), Cond.fieldLink RJ0 38 "java/lang/String" "COMPACT_STRINGS" "Z", Cond.fieldLink RJ0 15 "java/lang/String" "coder" "B", Cond.methodLink RX8 37 yJ0_charAt_5068e, Cond.instanceMethod yJ0_charAt_5068e, Cond.selects RJ0 yJ0_charAt_5068e yJ0_charAt_5068e, Cond.code yJ0_charAt_5068e cJ0_charAt_5068e 2 (some .char), Cond.methodLink RJ0 492 yJ0_isLatin1_aae02, Cond.instanceMethod yJ0_isLatin1_aae02, Cond.selects RJ0 yJ0_isLatin1_aae02 yJ0_isLatin1_aae02, Cond.code yJ0_isLatin1_aae02 cJ0_isLatin1_aae02 1 (some .boolean), Cond.methodLink RJ0 495 yJ1_charAt_3b067, Cond.static yJ1_charAt_3b067, Cond.initialized RJ1, Cond.code yJ1_charAt_3b067 cJ1_charAt_3b067 2 (some .char), Cond.methodLink RJ1 9 yJ0_checkIndex_df160, Cond.static yJ0_checkIndex_df160, Cond.code yJ0_checkIndex_df160 cJ0_checkIndex_df160 2 none, Cond.fieldLink RJ0 1053 "jdk/internal/util/Preconditions" "SIOOBE_FORMATTER" "Ljava/util/function/BiFunction;", Cond.methodLink RJ0 1059 yJ3_checkIndex_8e157, Cond.static yJ3_checkIndex_8e157]
noncomputable def wsL_law_r8 : List Cond := [Cond.initialized RJ3, Cond.code yJ3_checkIndex_8e157 cJ3_checkIndex_8e157 3 (some .int), Cond.methodLink RJ0 498 yJ2_charAt_3b067, Cond.static yJ2_charAt_3b067, Cond.initialized RJ2, Cond.code yJ2_charAt_3b067 cJ2_charAt_3b067 2 (some .char), Cond.methodLink RJ2 67 yJ2_checkIndex_2214a, Cond.static yJ2_checkIndex_2214a, Cond.code yJ2_checkIndex_2214a cJ2_checkIndex_2214a 2 none, Cond.methodLink RJ2 48 yJ2_length_9d52b, Cond.static yJ2_length_9d52b, Cond.code yJ2_length_9d52b cJ2_length_9d52b 1 (some .int), Cond.methodLink RJ2 414 yJ0_checkIndex_df160, Cond.methodLink RJ2 71 yJ2_getChar_3b067, Cond.static yJ2_getChar_3b067, Cond.code yJ2_getChar_3b067 cJ2_getChar_3b067 2 (some .char), Cond.fieldLink RJ2 44 "java/lang/StringUTF16" "$assertionsDisabled" "Z", Cond.fieldLink RJ2 59 "java/lang/StringUTF16" "HI_BYTE_SHIFT" "I", Cond.fieldLink RJ2 63 "java/lang/StringUTF16" "LO_BYTE_SHIFT" "I", Cond.methodLink RX8 41 yX8_withLetter, Cond.static yX8_withLetter, Cond.code yX8_withLetter cX8_withLetter 3 (some .long), Cond.constantLong RX8 78 (27), Cond.instanceMethod yX3_init]
noncomputable def wsL_law_r9 : List Cond := [Cond.code yX3_init cX3_init 1 none, Cond.methodLink RX3 3 objectInit, Cond.classLink RX3 9 RX2, Cond.fieldLink RX3 12 "TwoAsks$LawReader" "law" "LTwoAsks$Law;", Cond.fieldLink RX3 16 "TwoAsks$LawReader" "isOver" "Z", Cond.fieldLink RX3 20 "TwoAsks$LawReader" "wantsUnit" "Z", Cond.fieldLink RX3 23 "TwoAsks$LawReader" "mayBranch" "Z", Cond.fieldLink RX3 26 "TwoAsks$LawReader" "closer" "I", Cond.fieldLink RX3 30 "TwoAsks$LawReader" "ifs" "I", Cond.fieldLink RX3 33 "TwoAsks$LawReader" "nested" "I", Cond.fieldLink RX3 36 "TwoAsks$LawReader" "branch" "I", Cond.fieldLink RX3 39 "TwoAsks$LawReader" "waiting" "[I", Cond.fieldLink RX3 43 "TwoAsks$LawReader" "waits" "I", Cond.methodLink RX11 29 yX7_init, Cond.instanceMethod yX9_init, Cond.code yX9_init cX9_init 1 none, Cond.methodLink RX9 1 objectInit, Cond.fieldLink RX9 7 "TwoAsks$Told" "many" "I", Cond.fieldLink RX9 13 "TwoAsks$Told" "said" "[I", Cond.fieldLink RX9 17 "TwoAsks$Told" "answers" "[J", Cond.fieldLink RX9 21 "TwoAsks$Told" "holds" "Z", Cond.instanceMethod yX10_init, Cond.code yX10_init cX10_init 1 none, Cond.methodLink RX10 3 objectInit]
noncomputable def wsL_law_r10 : List Cond := [Cond.fieldLink RX10 9 "TwoAsks$Worlds" "places" "I", Cond.fieldLink RX10 15 "TwoAsks$Worlds" "many" "I", Cond.fieldLink RX10 18 "TwoAsks$Worlds" "greatest" "I", Cond.fieldLink RX10 21 "TwoAsks$Worlds" "values" "[J", Cond.fieldLink RX10 25 "TwoAsks$Worlds" "notZero" "[I", Cond.fieldLink RX10 29 "TwoAsks$Worlds" "groups" "[I", Cond.classLink RX10 32 RX4, Cond.instantiable RX4 3, Cond.initialized RX4, Cond.fieldLink RX10 35 "TwoAsks$Worlds" "leaders" "LTwoAsks$Leaders;", Cond.instanceMethod yX4_init, Cond.code yX4_init cX4_init 1 none, Cond.methodLink RX4 1 objectInit, Cond.fieldLink RX4 9 "TwoAsks$Leaders" "keys" "[J", Cond.fieldLink RX4 13 "TwoAsks$Leaders" "takers" "[I", Cond.fieldLink RX4 17 "TwoAsks$Leaders" "size" "I", Cond.methodLink RX11 60 yX1_init, Cond.instanceMethod yX1_init, Cond.code yX1_init cX1_init 2 none, Cond.methodLink RX1 5 objectInit, Cond.fieldLink RX1 13 "TwoAsks$Fitting" "ones" "[I", Cond.fieldLink RX1 17 "TwoAsks$Fitting" "many" "I", Cond.fieldLink RX1 21 "TwoAsks$Fitting" "bestSaid" "I", Cond.fieldLink RX1 24 "TwoAsks$Fitting" "bestMost" "I"]
noncomputable def wsL_law_r11 : List Cond := [Cond.fieldLink RX1 27 "TwoAsks$Fitting" "tally" "[I", Cond.classLink RX1 30 "[[J", Cond.fieldLink RX1 32 "TwoAsks$Fitting" "answers" "[[J", Cond.fieldLink RX1 35 "TwoAsks$Fitting" "worlds" "LTwoAsks$Worlds;", Cond.methodLink RX11 67 yX11_begin, Cond.instanceMethod yX11_begin, Cond.selects RX11 yX11_begin yX11_begin, Cond.code yX11_begin cX11_begin 2 none, Cond.fieldLink RX11 73 "TwoAsks$Told" "holds" "Z", Cond.fieldLink RX11 77 "TwoAsks$Text" "worldPlaces" "I", Cond.fieldLink RX11 80 "TwoAsks$Text" "greatest" "I", Cond.methodLink RX11 70 yX9_clear, Cond.instanceMethod yX9_clear, Cond.selects RX9 yX9_clear yX9_clear, Cond.code yX9_clear cX9_clear 1 none, Cond.methodLink RX11 83 yX10_settle, Cond.instanceMethod yX10_settle, Cond.selects RX10 yX10_settle yX10_settle, Cond.code yX10_settle cX10_settle 7 none, Cond.methodLink RL 12 yX12_init, Cond.instanceMethod yX12_init, Cond.code yX12_init cX12_init 1 none, Cond.methodLink RX12 7 objectInit, Cond.fieldLink RX12 13 "TwoAsksModel" "tape" "[B"]
noncomputable def wsL_law_r12 : List Cond := [Cond.fieldLink RX12 17 "TwoAsksModel" "text" "[B", Cond.fieldLink RX12 20 "TwoAsksModel" "tKind" "[I", Cond.fieldLink RX12 24 "TwoAsksModel" "tPlace" "[I", Cond.fieldLink RX12 27 "TwoAsksModel" "tValue" "[I", Cond.fieldLink RX12 30 "TwoAsksModel" "tName" "[J", Cond.fieldLink RX12 34 "TwoAsksModel" "keys" "[J", Cond.fieldLink RX12 37 "TwoAsksModel" "place" "I", Cond.fieldLink RX12 40 "TwoAsksModel" "nameOf" "[J", Cond.fieldLink RX12 43 "TwoAsksModel" "rowsTold" "[I", Cond.fieldLink RX12 46 "TwoAsksModel" "longOf" "[I", Cond.fieldLink RX12 49 "TwoAsksModel" "placeOf" "[I", Cond.fieldLink RX12 52 "TwoAsksModel" "prime" "[I", Cond.fieldLink RX12 55 "TwoAsksModel" "shares" "[I", Cond.fieldLink RX12 58 "TwoAsksModel" "shareAt" "[I", Cond.fieldLink RX12 61 "TwoAsksModel" "shareOf" "[I", Cond.fieldLink RX12 64 "TwoAsksModel" "shareToken" "[I", Cond.fieldLink RX12 67 "TwoAsksModel" "bags" "[I", Cond.fieldLink RX12 70 "TwoAsksModel" "coins" "[I", Cond.fieldLink RX12 73 "TwoAsksModel" "worldLong" "[I", Cond.fieldLink RX12 76 "TwoAsksModel" "worldMost" "[I", Cond.fieldLink RX12 79 "TwoAsksModel" "liar" "[I", Cond.fieldLink RX12 82 "TwoAsksModel" "lawFirst" "[I", Cond.fieldLink RX12 85 "TwoAsksModel" "lawLast" "[I", Cond.arrayClass .boolean]
noncomputable def wsL_law_r13 : List Cond := [Cond.fieldLink RX12 88 "TwoAsksModel" "hasTest" "[Z", Cond.fieldLink RX12 92 "TwoAsksModel" "testFrom" "[I", Cond.fieldLink RX12 95 "TwoAsksModel" "testMid" "[I", Cond.fieldLink RX12 98 "TwoAsksModel" "testTo" "[I", Cond.fieldLink RX12 101 "TwoAsksModel" "termTo" "[I", Cond.fieldLink RX12 104 "TwoAsksModel" "code" "[I", Cond.fieldLink RX12 107 "TwoAsksModel" "codeInt" "[I", Cond.fieldLink RX12 110 "TwoAsksModel" "waits" "[I", Cond.fieldLink RX12 113 "TwoAsksModel" "variables" "[I", Cond.fieldLink RX12 116 "TwoAsksModel" "pile" "[I", Cond.constant RX12 119 (32768), Cond.fieldLink RX12 120 "TwoAsksModel" "tableKey" "[J", Cond.fieldLink RX12 123 "TwoAsksModel" "tableFirst" "[I", Cond.fieldLink RX12 126 "TwoAsksModel" "tableMany" "[I", Cond.fieldLink RX12 129 "TwoAsksModel" "groupOf" "[I", Cond.fieldLink RX12 132 "TwoAsksModel" "toldSaid" "[I", Cond.fieldLink RX12 135 "TwoAsksModel" "toldAnswer" "[J", Cond.fieldLink RX12 138 "TwoAsksModel" "fitsNow" "[Z", Cond.fieldLink RX12 141 "TwoAsksModel" "hidden" "I", Cond.fieldLink RX12 144 "TwoAsksModel" "fitting" "[I", Cond.fieldLink RX12 147 "TwoAsksModel" "looked" "[Z", Cond.fieldLink RX12 150 "TwoAsksModel" "rowOf" "[I", Cond.fieldLink RX12 153 "TwoAsksModel" "product" "[I", Cond.fieldLink RX12 156 "TwoAsksModel" "isHeld" "[Z"]
noncomputable def wsL_law_r14 : List Cond := [Cond.fieldLink RX12 159 "TwoAsksModel" "heldMany" "[I", Cond.fieldLink RX12 162 "TwoAsksModel" "heldSaid" "[I", Cond.fieldLink RX12 165 "TwoAsksModel" "heldAnswer" "[J", Cond.methodLink RX12 168 yX12_plain, Cond.instanceMethod yX12_plain, Cond.selects RX12 yX12_plain yX12_plain, Cond.code yX12_plain cX12_plain 3 none, Cond.methodLink RX12 172 yX12_word, Cond.static yX12_word, Cond.code yX12_word cX12_word 7 (some .long), Cond.methodLink RX12 187 yX12_appends, Cond.static yX12_appends, Cond.code yX12_appends cX12_appends 3 (some .long), Cond.constantLong RX12 185 (27), Cond.methodLink RL 13 yX11_feed, Cond.instanceMethod yX11_feed, Cond.selects RX11 yX11_feed yX11_feed, Cond.code yX11_feed cX11_feed 6 (some .int), Cond.methodLink RX11 87 yX11_putFour, Cond.instanceMethod yX11_putFour, Cond.selects RX11 yX11_putFour yX11_putFour, Cond.code yX11_putFour cX11_putFour 3 none, Cond.methodLink RL 17 yX12_feed, Cond.instanceMethod yX12_feed]
noncomputable def wsL_law_r15 : List Cond := [Cond.selects RX12 yX12_feed yX12_feed, Cond.code yX12_feed cX12_feed 6 (some .int), Cond.fieldLink RX12 176 "TwoAsksModel" "taped" "I", Cond.methodLink RX12 179 yX12_put, Cond.instanceMethod yX12_put, Cond.selects RX12 yX12_put yX12_put, Cond.code yX12_put cX12_put 3 none, Cond.methodLink RL 18 yX11_back, Cond.instanceMethod yX11_back, Cond.selects RX11 yX11_back yX11_back, Cond.code yX11_back cX11_back 2 (some .int), Cond.methodLink RL 22 yX12_back, Cond.instanceMethod yX12_back, Cond.selects RX12 yX12_back yX12_back, Cond.code yX12_back cX12_back 2 (some .int), Cond.methodLink RL 23 yX11_read, Cond.instanceMethod yX11_read, Cond.selects RX11 yX11_read yX11_read, Cond.code yX11_read cX11_read 2 (some .int), Cond.fieldLink RX11 95 "TwoAsks$Reader" "faultPlace" "I", Cond.methodLink RX11 91 yX5_readDraft, Cond.instanceMethod yX5_readDraft, Cond.selects RX5 yX5_readDraft yX5_readDraft, Cond.code yX5_readDraft cX5_readDraft 5 (some .int)]
noncomputable def wsL_law_r16 : List Cond := [Cond.methodLink RX5 45 yX7_clear, Cond.methodLink RX5 48 yX8_cut, Cond.instanceMethod yX8_cut, Cond.selects RX8 yX8_cut yX8_cut, Cond.code yX8_cut cX8_cut 6 none, Cond.methodLink RX8 80 yX8_isBlank, Cond.static yX8_isBlank, Cond.code yX8_isBlank cX8_isBlank 1 (some .boolean), Cond.methodLink RX8 84 yX8_cutOne, Cond.instanceMethod yX8_cutOne, Cond.selects RX8 yX8_cutOne yX8_cutOne, Cond.code yX8_cutOne cX8_cutOne 5 (some .int), Cond.methodLink RX8 88 yX8_isLetter, Cond.static yX8_isLetter, Cond.code yX8_isLetter cX8_isLetter 1 (some .boolean), Cond.methodLink RX8 91 yX8_cutName, Cond.instanceMethod yX8_cutName, Cond.selects RX8 yX8_cutName yX8_cutName, Cond.code yX8_cutName cX8_cutName 7 (some .int), Cond.methodLink RX8 107 yX8_kindOf, Cond.instanceMethod yX8_kindOf, Cond.selects RX8 yX8_kindOf yX8_kindOf, Cond.code yX8_kindOf cX8_kindOf 4 (some .int), Cond.methodLink RX8 103 yX8_add]
noncomputable def wsL_law_r17 : List Cond := [Cond.instanceMethod yX8_add, Cond.selects RX8 yX8_add yX8_add, Cond.code yX8_add cX8_add 5 none, Cond.methodLink RX8 94 yX8_isDigit, Cond.static yX8_isDigit, Cond.code yX8_isDigit cX8_isDigit 1 (some .boolean), Cond.methodLink RX8 97 yX8_cutInt, Cond.instanceMethod yX8_cutInt, Cond.selects RX8 yX8_cutInt yX8_cutInt, Cond.code yX8_cutInt cX8_cutInt 6 (some .int), Cond.methodLink RX8 100 yX8_isSign, Cond.static yX8_isSign, Cond.code yX8_isSign cX8_isSign 1 (some .boolean), Cond.methodLink RX5 52 yX5_kind, Cond.instanceMethod yX5_kind, Cond.selects RX5 yX5_kind yX5_kind, Cond.code yX5_kind cX5_kind 1 (some .int), Cond.fieldLink RX5 63 "TwoAsks$Tokens" "kinds" "[I", Cond.methodLink RX5 56 yX5_readTell, Cond.instanceMethod yX5_readTell, Cond.selects RX5 yX5_readTell yX5_readTell, Cond.code yX5_readTell cX5_readTell 2 (some .boolean), Cond.methodLink RX5 67 yX5_stop, Cond.instanceMethod yX5_stop]
noncomputable def wsL_law_r18 : List Cond := [Cond.selects RX5 yX5_stop yX5_stop, Cond.code yX5_stop cX5_stop 2 (some .boolean), Cond.fieldLink RX5 104 "TwoAsks$Tokens" "starts" "[I", Cond.methodLink RX5 71 yX7_isFullOf, Cond.instanceMethod yX7_isFullOf, Cond.selects RX7 yX7_isFullOf yX7_isFullOf, Cond.code yX7_isFullOf cX7_isFullOf 2 (some .boolean), Cond.fieldLink RX7 64 "TwoAsks$Shares" "many" "I", Cond.fieldLink RX7 67 "TwoAsks$Bags" "many" "I", Cond.methodLink RX5 74 yX5_take, Cond.instanceMethod yX5_take, Cond.selects RX5 yX5_take yX5_take, Cond.code yX5_take cX5_take 2 (some .boolean), Cond.methodLink RX5 77 yX5_takeName, Cond.instanceMethod yX5_takeName, Cond.selects RX5 yX5_takeName yX5_takeName, Cond.code yX5_takeName cX5_takeName 1 (some .boolean), Cond.methodLink RX5 111 yX5_taken, Cond.instanceMethod yX5_taken, Cond.selects RX5 yX5_taken yX5_taken, Cond.code yX5_taken cX5_taken 2 (some .long), Cond.fieldLink RX5 107 "TwoAsks$Tokens" "values" "[J", Cond.methodLink RX5 123 yX7_tellName, Cond.instanceMethod yX7_tellName]
noncomputable def wsL_law_r19 : List Cond := [Cond.selects RX7 yX7_tellName yX7_tellName, Cond.code yX7_tellName cX7_tellName 5 (some .boolean), Cond.methodLink RX5 119 yX5_note, Cond.instanceMethod yX5_note, Cond.selects RX5 yX5_note yX5_note, Cond.code yX5_note cX5_note 3 none, Cond.methodLink RX5 80 yX5_noteSize, Cond.instanceMethod yX5_noteSize, Cond.selects RX5 yX5_noteSize yX5_noteSize, Cond.code yX5_noteSize cX5_noteSize 1 (some .boolean), Cond.methodLink RX5 127 yX5_takenWithin, Cond.instanceMethod yX5_takenWithin, Cond.selects RX5 yX5_takenWithin yX5_takenWithin, Cond.code yX5_takenWithin cX5_takenWithin 5 (some .boolean), Cond.static yX11_within, Cond.code yX11_within cX11_within 6 (some .boolean), Cond.methodLink RX5 83 yX5_readLaw, Cond.instanceMethod yX5_readLaw, Cond.selects RX5 yX5_readLaw yX5_readLaw, Cond.code yX5_readLaw cX5_readLaw 3 (some .boolean), Cond.fieldLink RX5 199 "TwoAsks$LawReader" "isOver" "Z", Cond.fieldLink RX5 203 "TwoAsks$LawReader" "wantsUnit" "Z", Cond.methodLink RX5 196 yX3_begin, Cond.instanceMethod yX3_begin]
noncomputable def wsL_law_r20 : List Cond := [Cond.selects RX3 yX3_begin yX3_begin, Cond.code yX3_begin cX3_begin 1 none, Cond.methodLink RX3 46 yX2_clear, Cond.methodLink RX5 206 yX3_unit, Cond.instanceMethod yX3_unit, Cond.selects RX3 yX3_unit yX3_unit, Cond.code yX3_unit cX3_unit 4 (some .int), Cond.methodLink RX3 51 yX3_branchBegins, Cond.instanceMethod yX3_branchBegins, Cond.selects RX3 yX3_branchBegins yX3_branchBegins, Cond.code yX3_branchBegins cX3_branchBegins 1 (some .int), Cond.methodLink RX3 55 yX3_nestBegins, Cond.instanceMethod yX3_nestBegins, Cond.selects RX3 yX3_nestBegins yX3_nestBegins, Cond.code yX3_nestBegins cX3_nestBegins 1 (some .int), Cond.methodLink RX3 64 yX3_letWait, Cond.instanceMethod yX3_letWait, Cond.selects RX3 yX3_letWait yX3_letWait, Cond.code yX3_letWait cX3_letWait 2 none, Cond.methodLink RX3 58 yX2_add, Cond.methodLink RX5 210 yX3_behindUnit, Cond.instanceMethod yX3_behindUnit, Cond.selects RX3 yX3_behindUnit yX3_behindUnit, Cond.code yX3_behindUnit cX3_behindUnit 3 (some .int)]
noncomputable def wsL_law_r21 : List Cond := [Cond.methodLink RX3 68 yX3_rankOf, Cond.static yX3_rankOf, Cond.code yX3_rankOf cX3_rankOf 1 (some .int), Cond.methodLink RX3 72 yX3_writeWaiting, Cond.instanceMethod yX3_writeWaiting, Cond.selects RX3 yX3_writeWaiting yX3_writeWaiting, Cond.code yX3_writeWaiting cX3_writeWaiting 2 none, Cond.methodLink RX3 75 yX3_nestEnds, Cond.instanceMethod yX3_nestEnds, Cond.selects RX3 yX3_nestEnds yX3_nestEnds, Cond.code yX3_nestEnds cX3_nestEnds 1 none, Cond.methodLink RX3 78 yX3_partEnds, Cond.instanceMethod yX3_partEnds, Cond.selects RX3 yX3_partEnds yX3_partEnds, Cond.code yX3_partEnds cX3_partEnds 1 none, Cond.methodLink RX3 81 yX2_branchHere, Cond.instanceMethod yX2_branchHere, Cond.selects RX2 yX2_branchHere yX2_branchHere, Cond.code yX2_branchHere cX2_branchHere 2 none, Cond.methodLink RX5 86 yX5_tellRow, Cond.instanceMethod yX5_tellRow, Cond.selects RX5 yX5_tellRow yX5_tellRow, Cond.code yX5_tellRow cX5_tellRow 3 (some .boolean), Cond.fieldLink RX5 131 "TwoAsks$LawReader" "law" "LTwoAsks$Law;"]
noncomputable def wsL_law_r22 : List Cond := [Cond.methodLink RX5 135 yX2_numberAt, Cond.instanceMethod yX2_numberAt, Cond.selects RX2 yX2_numberAt yX2_numberAt, Cond.code yX2_numberAt cX2_numberAt 4 (some .int), Cond.methodLink RX2 46 Lib.Math.min.name, Cond.static Lib.Math.min.name, Cond.initialized "java/lang/Math", Cond.code Lib.Math.min.name Lib.Math.min.code 2 (some .int), Cond.methodLink RX2 52 Lib.Math.max.name, Cond.static Lib.Math.max.name, Cond.code Lib.Math.max.name Lib.Math.max.code 2 (some .int), Cond.methodLink RX2 38 yX2_look, Cond.instanceMethod yX2_look, Cond.selects RX2 yX2_look yX2_look, Cond.code yX2_look cX2_look 7 none, Cond.methodLink RX2 42 yX2_worth, Cond.instanceMethod yX2_worth, Cond.selects RX2 yX2_worth yX2_worth, Cond.code yX2_worth cX2_worth 6 (some .int), Cond.methodLink RX2 57 yX2_joined, Cond.static yX2_joined, Cond.code yX2_joined cX2_joined 3 (some .int), Cond.methodLink RX5 141 yX7_tellNumber, Cond.instanceMethod yX7_tellNumber]
noncomputable def wsL_law_r23 : List Cond := [Cond.selects RX7 yX7_tellNumber yX7_tellNumber, Cond.code yX7_tellNumber cX7_tellNumber 3 none, Cond.methodLink RX5 143 yX7_endRow, Cond.instanceMethod yX7_endRow, Cond.selects RX7 yX7_endRow yX7_endRow, Cond.code yX7_endRow cX7_endRow 2 none, Cond.methodLink RX5 89 yX5_readList, Cond.instanceMethod yX5_readList, Cond.selects RX5 yX5_readList yX5_readList, Cond.code yX5_readList cX5_readList 5 (some .boolean), Cond.methodLink RX5 92 yX5_tellAsk, Cond.instanceMethod yX5_tellAsk, Cond.selects RX5 yX5_tellAsk yX5_tellAsk, Cond.code yX5_tellAsk cX5_tellAsk 1 (some .boolean), Cond.fieldLink RX5 147 "TwoAsks$Text" "ask" "LTwoAsks$Law;", Cond.methodLink RX5 150 yX2_copy, Cond.instanceMethod yX2_copy, Cond.selects RX2 yX2_copy yX2_copy, Cond.code yX2_copy cX2_copy 2 none, Cond.methodLink RX2 32 arraycopyName, Cond.native arraycopyName, Cond.static arraycopyName, Cond.initialized "java/lang/System", Cond.methodLink RX5 95 yX5_tellShare]
noncomputable def wsL_law_r24 : List Cond := [Cond.instanceMethod yX5_tellShare, Cond.selects RX5 yX5_tellShare yX5_tellShare, Cond.code yX5_tellShare cX5_tellShare 2 (some .boolean), Cond.fieldLink RX5 154 "TwoAsks$Text" "shares" "LTwoAsks$Shares;", Cond.methodLink RX5 158 yX6_isAt, Cond.instanceMethod yX6_isAt, Cond.selects RX6 yX6_isAt yX6_isAt, Cond.code yX6_isAt cX6_isAt 3 (some .boolean), Cond.methodLink RX5 163 yX6_add, Cond.instanceMethod yX6_add, Cond.selects RX6 yX6_add yX6_add, Cond.code yX6_add cX6_add 4 none, Cond.methodLink RX5 98 yX5_tellBound, Cond.instanceMethod yX5_tellBound, Cond.selects RX5 yX5_tellBound yX5_tellBound, Cond.code yX5_tellBound cX5_tellBound 1 (some .boolean), Cond.fieldLink RX5 169 "TwoAsks$Text" "worldPlaces" "I", Cond.fieldLink RX5 172 "TwoAsks$Text" "greatest" "I", Cond.methodLink RX5 101 yX5_tellNumber, Cond.instanceMethod yX5_tellNumber, Cond.selects RX5 yX5_tellNumber yX5_tellNumber, Cond.code yX5_tellNumber cX5_tellNumber 3 (some .boolean), Cond.fieldLink RX5 177 "TwoAsks$Text" "bags" "LTwoAsks$Bags;", Cond.fieldLink RX5 183 "TwoAsks$Text" "liar" "I"]
noncomputable def wsL_law_r25 : List Cond := [Cond.fieldLink RX5 189 "TwoAsks$Shares" "prime" "I", Cond.methodLink RX5 181 yX0_add, Cond.instanceMethod yX0_add, Cond.selects RX0 yX0_add yX0_add, Cond.code yX0_add cX0_add 4 none, Cond.methodLink RX0 23 yX0_sets, Cond.instanceMethod yX0_sets, Cond.selects RX0 yX0_sets yX0_sets, Cond.code yX0_sets cX0_sets 1 (some .int), Cond.methodLink RX5 186 yX5_isPrime, Cond.static yX5_isPrime, Cond.code yX5_isPrime cX5_isPrime 2 (some .boolean), Cond.constantLong RX5 192 (2), Cond.constantLong RX5 194 (97), Cond.methodLink RX5 60 yX5_findGreat, Cond.instanceMethod yX5_findGreat, Cond.selects RX5 yX5_findGreat yX5_findGreat, Cond.code yX5_findGreat cX5_findGreat 2 none, Cond.fieldLink RX5 214 "TwoAsks$Shares" "many" "I", Cond.fieldLink RX5 217 "TwoAsks$Shares" "ats" "[I", Cond.fieldLink RX5 220 "TwoAsks$Shares" "starts" "[I", Cond.methodLink RX11 96 yX5_exchange, Cond.instanceMethod yX5_exchange, Cond.selects RX5 yX5_exchange yX5_exchange]
noncomputable def wsL_law_r26 : List Cond := [Cond.code yX5_exchange cX5_exchange 3 (some (.object "TwoAsks$Text")), Cond.methodLink RL 27 yX12_read, Cond.instanceMethod yX12_read, Cond.selects RX12 yX12_read yX12_read, Cond.code yX12_read cX12_read 2 (some .int), Cond.fieldLink RX12 182 "TwoAsksModel" "size" "I", Cond.fieldLink RX12 216 "TwoAsksModel" "t" "I", Cond.fieldLink RX12 240 "TwoAsksModel" "open" "I", Cond.fieldLink RX12 213 "TwoAsksModel" "fault" "I", Cond.fieldLink RX12 222 "TwoAsksModel" "worst" "I", Cond.fieldLink RX12 243 "TwoAsksModel" "live" "I", Cond.fieldLink RX12 246 "TwoAsksModel" "side" "I", Cond.fieldLink RX12 249 "TwoAsksModel" "names" "I", Cond.fieldLink RX12 252 "TwoAsksModel" "branches" "I", Cond.fieldLink RX12 255 "TwoAsksModel" "codes" "I", Cond.fieldLink RX12 219 "TwoAsksModel" "faultPlace" "I", Cond.fieldLink RX12 225 "TwoAsksModel" "worstPlace" "I", Cond.fieldLink RX12 265 "TwoAsksModel" "told" "I", Cond.fieldLink RX12 268 "TwoAsksModel" "asked" "I", Cond.methodLink RX12 237 yX12_cut, Cond.instanceMethod yX12_cut, Cond.selects RX12 yX12_cut yX12_cut, Cond.code yX12_cut cX12_cut 8 none, Cond.fieldLink RX12 191 "TwoAsksModel" "tokens" "I"]
noncomputable def wsL_law_r27 : List Cond := [Cond.methodLink RX12 194 yX12_byteAt, Cond.instanceMethod yX12_byteAt, Cond.selects RX12 yX12_byteAt yX12_byteAt, Cond.code yX12_byteAt cX12_byteAt 2 (some .int), Cond.methodLink RX12 198 yX12_token, Cond.instanceMethod yX12_token, Cond.selects RX12 yX12_token yX12_token, Cond.code yX12_token cX12_token 6 none, Cond.methodLink RX12 202 yX12_isLetter, Cond.static yX12_isLetter, Cond.code yX12_isLetter cX12_isLetter 1 (some .boolean), Cond.methodLink RX12 206 yX12_isDigit, Cond.static yX12_isDigit, Cond.code yX12_isDigit cX12_isDigit 1 (some .boolean), Cond.methodLink RX12 209 yX12_sign, Cond.instanceMethod yX12_sign, Cond.selects RX12 yX12_sign yX12_sign, Cond.code yX12_sign cX12_sign 5 (some .int), Cond.methodLink RX12 231 yX12_is, Cond.instanceMethod yX12_is, Cond.selects RX12 yX12_is yX12_is, Cond.code yX12_is cX12_is 2 (some .boolean), Cond.methodLink RX12 258 yX12_tell, Cond.instanceMethod yX12_tell]
noncomputable def wsL_law_r28 : List Cond := [Cond.selects RX12 yX12_tell yX12_tell, Cond.code yX12_tell cX12_tell 1 none, Cond.methodLink RX12 271 yX12_roomFor, Cond.instanceMethod yX12_roomFor, Cond.selects RX12 yX12_roomFor yX12_roomFor, Cond.code yX12_roomFor cX12_roomFor 3 none, Cond.methodLink RX12 228 yX12_fail, Cond.instanceMethod yX12_fail, Cond.selects RX12 yX12_fail yX12_fail, Cond.code yX12_fail cX12_fail 2 none, Cond.methodLink RX12 234 yX12_goesOn, Cond.instanceMethod yX12_goesOn, Cond.selects RX12 yX12_goesOn yX12_goesOn, Cond.code yX12_goesOn cX12_goesOn 1 none, Cond.methodLink RX12 274 yX12_tellRow, Cond.instanceMethod yX12_tellRow, Cond.selects RX12 yX12_tellRow yX12_tellRow, Cond.code yX12_tellRow cX12_tellRow 5 none, Cond.methodLink RX12 296 yX12_named, Cond.instanceMethod yX12_named, Cond.selects RX12 yX12_named yX12_named, Cond.code yX12_named cX12_named 3 (some .int), Cond.methodLink RX12 293 yX12_must, Cond.instanceMethod yX12_must]
noncomputable def wsL_law_r29 : List Cond := [Cond.selects RX12 yX12_must yX12_must, Cond.code yX12_must cX12_must 2 none, Cond.methodLink RX12 261 yX12_amiss, Cond.instanceMethod yX12_amiss, Cond.selects RX12 yX12_amiss yX12_amiss, Cond.code yX12_amiss cX12_amiss 4 none, Cond.methodLink RX12 289 yX12_bounded, Cond.instanceMethod yX12_bounded, Cond.selects RX12 yX12_bounded yX12_bounded, Cond.code yX12_bounded cX12_bounded 4 (some .int), Cond.methodLink RX12 280 yX12_tellLaw, Cond.instanceMethod yX12_tellLaw, Cond.selects RX12 yX12_tellLaw yX12_tellLaw, Cond.code yX12_tellLaw cX12_tellLaw 4 none, Cond.methodLink RX12 306 yX12_expression, Cond.instanceMethod yX12_expression, Cond.selects RX12 yX12_expression yX12_expression, Cond.code yX12_expression cX12_expression 3 none, Cond.fieldLink RX12 312 "TwoAsksModel" "waiting" "I", Cond.methodLink RX12 318 yX12_unit, Cond.instanceMethod yX12_unit, Cond.selects RX12 yX12_unit yX12_unit, Cond.code yX12_unit cX12_unit 1 none, Cond.methodLink RX12 315 yX12_emit]
noncomputable def wsL_law_r30 : List Cond := [Cond.instanceMethod yX12_emit, Cond.selects RX12 yX12_emit yX12_emit, Cond.code yX12_emit cX12_emit 3 none, Cond.methodLink RX12 321 yX12_comesOut, Cond.instanceMethod yX12_comesOut, Cond.selects RX12 yX12_comesOut yX12_comesOut, Cond.code yX12_comesOut cX12_comesOut 3 none, Cond.methodLink RX12 309 yX12_term, Cond.instanceMethod yX12_term, Cond.selects RX12 yX12_term yX12_term, Cond.code yX12_term cX12_term 1 none, Cond.methodLink RX12 300 yX12_tellsBy, Cond.instanceMethod yX12_tellsBy, Cond.selects RX12 yX12_tellsBy yX12_tellsBy, Cond.code yX12_tellsBy cX12_tellsBy 5 (some .int), Cond.fieldLink RX12 325 "TwoAsksModel" "isBroken" "Z", Cond.methodLink RX12 329 yX12_termOf, Cond.instanceMethod yX12_termOf, Cond.selects RX12 yX12_termOf yX12_termOf, Cond.code yX12_termOf cX12_termOf 8 (some .int), Cond.methodLink RX12 303 yX12_notes, Cond.instanceMethod yX12_notes, Cond.selects RX12 yX12_notes yX12_notes, Cond.code yX12_notes cX12_notes 2 none]
noncomputable def wsL_law_r31 : List Cond := [Cond.methodLink RX12 277 yX12_tellList, Cond.instanceMethod yX12_tellList, Cond.selects RX12 yX12_tellList yX12_tellList, Cond.code yX12_tellList cX12_tellList 6 none, Cond.methodLink RX12 283 yX12_tellPrime, Cond.instanceMethod yX12_tellPrime, Cond.selects RX12 yX12_tellPrime yX12_tellPrime, Cond.code yX12_tellPrime cX12_tellPrime 4 none, Cond.methodLink RX12 286 yX12_tellShare, Cond.instanceMethod yX12_tellShare, Cond.selects RX12 yX12_tellShare yX12_tellShare, Cond.code yX12_tellShare cX12_tellShare 5 none, Cond.methodLink RL 28 yX11_place, Cond.instanceMethod yX11_place, Cond.selects RX11 yX11_place yX11_place, Cond.code yX11_place cX11_place 1 (some .int), Cond.methodLink RL 31 yX12_place, Cond.instanceMethod yX12_place, Cond.selects RX12 yX12_place yX12_place, Cond.code yX12_place cX12_place 1 (some .int), Cond.methodLink RL 32 yX11_row, Cond.instanceMethod yX11_row, Cond.selects RX11 yX11_row yX11_row, Cond.code yX11_row cX11_row 4 (some .int)]
noncomputable def wsL_law_r32 : List Cond := [Cond.fieldLink RX11 107 "TwoAsks$Text" "sizes" "[I", Cond.methodLink RX11 103 yX11_isRow, Cond.instanceMethod yX11_isRow, Cond.selects RX11 yX11_isRow yX11_isRow, Cond.code yX11_isRow cX11_isRow 2 (some .boolean), Cond.fieldLink RX11 100 "TwoAsks$Text" "rows" "I", Cond.methodLink RX11 111 yX7_numberAt, Cond.instanceMethod yX7_numberAt, Cond.selects RX7 yX7_numberAt yX7_numberAt, Cond.code yX7_numberAt cX7_numberAt 4 (some .int), Cond.methodLink RL 36 yX12_row, Cond.instanceMethod yX12_row, Cond.selects RX12 yX12_row yX12_row, Cond.code yX12_row cX12_row 3 (some .int), Cond.methodLink RX12 336 yX12_isRow, Cond.instanceMethod yX12_isRow, Cond.selects RX12 yX12_isRow yX12_isRow, Cond.code yX12_isRow cX12_isRow 2 (some .boolean), Cond.methodLink RX12 332 yX12_in, Cond.static yX12_in, Cond.code yX12_in cX12_in 6 (some .boolean), Cond.methodLink RX12 339 yX12_longAt, Cond.instanceMethod yX12_longAt, Cond.selects RX12 yX12_longAt yX12_longAt]
noncomputable def wsL_law_r33 : List Cond := [Cond.code yX12_longAt cX12_longAt 2 (some .int), Cond.methodLink RX12 342 yX12_at, Cond.instanceMethod yX12_at, Cond.selects RX12 yX12_at yX12_at, Cond.code yX12_at cX12_at 3 (some .int), Cond.methodLink RL 37 yX11_comes, Cond.instanceMethod yX11_comes, Cond.selects RX11 yX11_comes yX11_comes, Cond.code yX11_comes cX11_comes 3 (some .long), Cond.constantLong RX11 115 (-999), Cond.constantLong RX11 117 (999), Cond.constantLong RX11 123 (-2000000000000000000), Cond.methodLink RX11 119 yX11_within, Cond.methodLink RX11 125 yX7_comesTo, Cond.instanceMethod yX7_comesTo, Cond.selects RX7 yX7_comesTo yX7_comesTo, Cond.code yX7_comesTo cX7_comesTo 7 (some .long), Cond.methodLink RX7 68 yX7_numberAt, Cond.methodLink RL 41 yX12_comes, Cond.instanceMethod yX12_comes, Cond.selects RX12 yX12_comes yX12_comes, Cond.code yX12_comes cX12_comes 3 (some .long), Cond.constantLong RX12 345 (-999), Cond.constantLong RX12 347 (999)]
noncomputable def wsL_law_r34 : List Cond := [Cond.constantLong RX12 353 (-2000000000000000000), Cond.methodLink RX12 349 yX12_comesBy, Cond.instanceMethod yX12_comesBy, Cond.selects RX12 yX12_comesBy yX12_comesBy, Cond.code yX12_comesBy cX12_comesBy 7 (some .long), Cond.methodLink RL 42 yX11_two, Cond.instanceMethod yX11_two, Cond.selects RX11 yX11_two yX11_two, Cond.code yX11_two cX11_two 5 (some .long), Cond.constantLong RX11 129 (3), Cond.constantLong RX11 131 (-1), Cond.constantLong RX11 136 (-2), Cond.methodLink RX11 133 yX7_isSomeBelowZero, Cond.instanceMethod yX7_isSomeBelowZero, Cond.selects RX7 yX7_isSomeBelowZero yX7_isSomeBelowZero, Cond.code yX7_isSomeBelowZero cX7_isSomeBelowZero 3 (some .boolean), Cond.methodLink RX11 138 yX11_figuresOf, Cond.static yX11_figuresOf, Cond.code yX11_figuresOf cX11_figuresOf 5 (some .int), Cond.methodLink RX11 142 Lib.MathLoose.abs_long.x, Cond.static Lib.MathLoose.abs_long.x, Cond.code Lib.MathLoose.abs_long.x Lib.MathLoose.abs_long.code 2 (some .long), Cond.constantLong RX11 148 (10), Cond.methodLink RL 45 yX12_two]
noncomputable def wsL_law_r35 : List Cond := [Cond.instanceMethod yX12_two, Cond.selects RX12 yX12_two yX12_two, Cond.code yX12_two cX12_two 5 (some .long), Cond.constantLong RX12 357 (3), Cond.constantLong RX12 359 (-1), Cond.constantLong RX12 364 (-2), Cond.methodLink RX12 361 yX12_isBelow, Cond.instanceMethod yX12_isBelow, Cond.selects RX12 yX12_isBelow yX12_isBelow, Cond.code yX12_isBelow cX12_isBelow 3 (some .boolean), Cond.methodLink RX12 366 yX12_figures, Cond.static yX12_figures, Cond.code yX12_figures cX12_figures 5 (some .int), Cond.constantLong RX12 355 (10), Cond.methodLink RL 48 yX11_figure, Cond.instanceMethod yX11_figure, Cond.selects RX11 yX11_figure yX11_figure, Cond.code yX11_figure cX11_figure 10 (some .int), Cond.constantLong RX11 150 (1000000000000000000), Cond.constantLong RX11 152 (2), Cond.constantLong RX11 154 (9999), Cond.constantLong RX11 156 (6), Cond.methodLink RL 52 yX12_figure, Cond.instanceMethod yX12_figure]
noncomputable def wsL_law_r36 : List Cond := [Cond.selects RX12 yX12_figure yX12_figure, Cond.code yX12_figure cX12_figure 9 (some .int), Cond.constantLong RX12 370 (1000000000000000000), Cond.constantLong RX12 372 (2), Cond.constantLong RX12 374 (9999), Cond.constantLong RX12 376 (6), Cond.methodLink RL 53 yX11_clash, Cond.instanceMethod yX11_clash, Cond.selects RX11 yX11_clash yX11_clash, Cond.code yX11_clash cX11_clash 3 (some .int), Cond.methodLink RX11 191 yX10_clashing, Cond.instanceMethod yX10_clashing, Cond.selects RX10 yX10_clashing yX10_clashing, Cond.code yX10_clashing cX10_clashing 5 (some .int), Cond.methodLink RX10 45 yX10_comeBy, Cond.instanceMethod yX10_comeBy, Cond.selects RX10 yX10_comeBy yX10_comeBy, Cond.code yX10_comeBy cX10_comeBy 9 none, Cond.methodLink RX10 49 yX4_clear, Cond.instanceMethod yX4_clear, Cond.selects RX4 yX4_clear yX4_clear, Cond.code yX4_clear cX4_clear 2 none, Cond.methodLink RX4 21 yJ7_fill_fda19, Cond.static yJ7_fill_fda19]
noncomputable def wsL_law_r37 : List Cond := [Cond.initialized RJ7, Cond.code yJ7_fill_fda19 cJ7_fill_fda19 5 none, Cond.methodLink RJ7 13 yJ7_rangeCheck_23922, Cond.static yJ7_rangeCheck_23922, Cond.code yJ7_rangeCheck_23922 cJ7_rangeCheck_23922 3 none, Cond.methodLink RX10 53 yX4_leaderOf, Cond.instanceMethod yX4_leaderOf, Cond.selects RX4 yX4_leaderOf yX4_leaderOf, Cond.code yX4_leaderOf cX4_leaderOf 6 (some .int), Cond.constantLong RX4 27 (-7046029254386353131), Cond.methodLink RL 57 yX12_clash, Cond.instanceMethod yX12_clash, Cond.selects RX12 yX12_clash yX12_clash, Cond.code yX12_clash cX12_clash 3 (some .int), Cond.fieldLink RX12 417 "TwoAsksModel" "laterOf" "I", Cond.fieldLink RX12 414 "TwoAsksModel" "firstOf" "I", Cond.methodLink RX12 420 yX12_clashes, Cond.instanceMethod yX12_clashes, Cond.selects RX12 yX12_clashes yX12_clashes, Cond.code yX12_clashes cX12_clashes 4 (some .boolean), Cond.methodLink RX12 401 yX12_clears, Cond.instanceMethod yX12_clears, Cond.selects RX12 yX12_clears yX12_clears, Cond.code yX12_clears cX12_clears 2 none]
noncomputable def wsL_law_r38 : List Cond := [Cond.methodLink RX12 404 yX12_worldAll, Cond.instanceMethod yX12_worldAll, Cond.selects RX12 yX12_worldAll yX12_worldAll, Cond.code yX12_worldAll cX12_worldAll 3 (some .int), Cond.methodLink RX12 407 yX12_worldComes, Cond.instanceMethod yX12_worldComes, Cond.selects RX12 yX12_worldComes yX12_worldComes, Cond.code yX12_worldComes cX12_worldComes 7 (some .long), Cond.methodLink RX12 394 yX12_figureOf, Cond.instanceMethod yX12_figureOf, Cond.selects RX12 yX12_figureOf yX12_figureOf, Cond.code yX12_figureOf cX12_figureOf 5 (some .int), Cond.methodLink RX12 410 yX12_keyAt, Cond.instanceMethod yX12_keyAt, Cond.selects RX12 yX12_keyAt yX12_keyAt, Cond.code yX12_keyAt cX12_keyAt 5 (some .int), Cond.constantLong RX12 397 (2654435761), Cond.constantLong RX12 399 (32767), Cond.methodLink RL 58 yX11_world, Cond.instanceMethod yX11_world, Cond.selects RX11 yX11_world yX11_world, Cond.code yX11_world cX11_world 3 (some .int), Cond.fieldLink RX11 181 "TwoAsks$Worlds" "many" "I", Cond.fieldLink RX11 187 "TwoAsks$Worlds" "places" "I"]
noncomputable def wsL_law_r39 : List Cond := [Cond.methodLink RX11 184 yX11_isWorld, Cond.instanceMethod yX11_isWorld, Cond.selects RX11 yX11_isWorld yX11_isWorld, Cond.code yX11_isWorld cX11_isWorld 2 (some .boolean), Cond.methodLink RX11 190 yX10_numberAt, Cond.instanceMethod yX10_numberAt, Cond.selects RX10 yX10_numberAt yX10_numberAt, Cond.code yX10_numberAt cX10_numberAt 6 (some .int), Cond.methodLink RX10 39 Lib.Math.max.name, Cond.methodLink RL 61 yX12_world, Cond.instanceMethod yX12_world, Cond.selects RX12 yX12_world yX12_world, Cond.code yX12_world cX12_world 3 (some .int), Cond.methodLink RL 62 yX11_tell, Cond.instanceMethod yX11_tell, Cond.selects RX11 yX11_tell yX11_tell, Cond.code yX11_tell cX11_tell 4 (some .int), Cond.constantLong RX11 201 (-99), Cond.constantLong RX11 203 (99), Cond.constantLong RX11 238 (-1000000000000000), Cond.constantLong RX11 240 (1000000000000000), Cond.fieldLink RX11 246 "TwoAsks$Told" "many" "I", Cond.methodLink RX11 234 yX9_isFull, Cond.instanceMethod yX9_isFull]
noncomputable def wsL_law_r40 : List Cond := [Cond.selects RX9 yX9_isFull yX9_isFull, Cond.code yX9_isFull cX9_isFull 1 (some .boolean), Cond.methodLink RX11 242 yX9_add, Cond.instanceMethod yX9_add, Cond.selects RX9 yX9_add yX9_add, Cond.code yX9_add cX9_add 4 none, Cond.methodLink RL 66 yX12_tell_, Cond.instanceMethod yX12_tell_, Cond.selects RX12 yX12_tell_ yX12_tell_, Cond.code yX12_tell_ cX12_tell_ 4 (some .int), Cond.constantLong RX12 430 (-99), Cond.constantLong RX12 432 (99), Cond.constantLong RX12 434 (-1000000000000000), Cond.constantLong RX12 436 (1000000000000000), Cond.methodLink RL 67 yX11_forget, Cond.instanceMethod yX11_forget, Cond.selects RX11 yX11_forget yX11_forget, Cond.code yX11_forget cX11_forget 2 (some .int), Cond.methodLink RL 70 yX12_forget, Cond.instanceMethod yX12_forget, Cond.selects RX12 yX12_forget yX12_forget, Cond.code yX12_forget cX12_forget 2 (some .int), Cond.methodLink RL 71 yX11_fits, Cond.instanceMethod yX11_fits]
noncomputable def wsL_law_r41 : List Cond := [Cond.selects RX11 yX11_fits yX11_fits, Cond.code yX11_fits cX11_fits 5 (some .int), Cond.fieldLink RX11 212 "TwoAsks$Fitting" "many" "I", Cond.fieldLink RX11 256 "TwoAsks$Fitting" "ones" "[I", Cond.methodLink RX11 253 yX11_choose, Cond.instanceMethod yX11_choose, Cond.selects RX11 yX11_choose yX11_choose, Cond.code yX11_choose cX11_choose 4 (some .boolean), Cond.constantLong RX11 247 (20), Cond.constantLong RX11 195 (4), Cond.methodLink RX11 249 yX1_select, Cond.instanceMethod yX1_select, Cond.selects RX1 yX1_select yX1_select, Cond.code yX1_select cX1_select 6 none, Cond.fieldLink RX1 39 "TwoAsks$Worlds" "many" "I", Cond.fieldLink RX1 44 "TwoAsks$Worlds" "notZero" "[I", Cond.fieldLink RX1 47 "TwoAsks$Told" "said" "[I", Cond.fieldLink RX1 56 "TwoAsks$Told" "answers" "[J", Cond.methodLink RX1 52 yX10_comeBy, Cond.methodLink RX1 58 yX1_dropWrong, Cond.instanceMethod yX1_dropWrong, Cond.selects RX1 yX1_dropWrong yX1_dropWrong, Cond.code yX1_dropWrong cX1_dropWrong 7 none, Cond.fieldLink RX1 40 "TwoAsks$Worlds" "values" "[J"]
noncomputable def wsL_law_r42 : List Cond := [Cond.methodLink RL 75 yX12_fits, Cond.instanceMethod yX12_fits, Cond.selects RX12 yX12_fits yX12_fits, Cond.code yX12_fits cX12_fits 8 (some .int), Cond.methodLink RX12 448 yX12_isAsked, Cond.instanceMethod yX12_isAsked, Cond.selects RX12 yX12_isAsked yX12_isAsked, Cond.code yX12_isAsked cX12_isAsked 4 (some .boolean), Cond.constantLong RX12 442 (20), Cond.constantLong RX12 423 (4), Cond.methodLink RX12 451 yX12_fillsFits, Cond.instanceMethod yX12_fillsFits, Cond.selects RX12 yX12_fillsFits yX12_fillsFits, Cond.code yX12_fillsFits cX12_fillsFits 6 (some .int), Cond.methodLink RX12 444 yX12_isFit, Cond.instanceMethod yX12_isFit, Cond.selects RX12 yX12_isFit yX12_isFit, Cond.code yX12_isFit cX12_isFit 7 (some .boolean), Cond.methodLink RX12 425 yX12_fullPlaces, Cond.instanceMethod yX12_fullPlaces, Cond.selects RX12 yX12_fullPlaces yX12_fullPlaces, Cond.code yX12_fullPlaces cX12_fullPlaces 4 (some .int), Cond.methodLink RX12 438 yX12_isRight, Cond.instanceMethod yX12_isRight]
noncomputable def wsL_law_r43 : List Cond := [Cond.selects RX12 yX12_isRight yX12_isRight, Cond.code yX12_isRight cX12_isRight 3 (some .boolean), Cond.methodLink RL 76 yX11_sure, Cond.instanceMethod yX11_sure, Cond.selects RX11 yX11_sure yX11_sure, Cond.code yX11_sure cX11_sure 4 (some .int), Cond.methodLink RX11 259 yX1_surePlaces, Cond.instanceMethod yX1_surePlaces, Cond.selects RX1 yX1_surePlaces yX1_surePlaces, Cond.code yX1_surePlaces cX1_surePlaces 3 (some .int), Cond.fieldLink RX1 74 "TwoAsks$Worlds" "places" "I", Cond.methodLink RX1 77 yX1_leastAt, Cond.instanceMethod yX1_leastAt, Cond.selects RX1 yX1_leastAt yX1_leastAt, Cond.code yX1_leastAt cX1_leastAt 4 (some .int), Cond.methodLink RX1 66 Lib.Math.min.name, Cond.methodLink RX1 62 yX10_numberAt, Cond.methodLink RX1 81 yX1_greatestAt, Cond.instanceMethod yX1_greatestAt, Cond.selects RX1 yX1_greatestAt yX1_greatestAt, Cond.code yX1_greatestAt cX1_greatestAt 4 (some .int), Cond.methodLink RX1 71 Lib.Math.max.name, Cond.methodLink RL 80 yX12_sure, Cond.instanceMethod yX12_sure]
noncomputable def wsL_law_r44 : List Cond := [Cond.selects RX12 yX12_sure yX12_sure, Cond.code yX12_sure cX12_sure 6 (some .int), Cond.methodLink RX12 454 yX12_spanOf, Cond.instanceMethod yX12_spanOf, Cond.selects RX12 yX12_spanOf yX12_spanOf, Cond.code yX12_spanOf cX12_spanOf 6 (some .int), Cond.methodLink RL 81 yX11_span, Cond.instanceMethod yX11_span, Cond.selects RX11 yX11_span yX11_span, Cond.code yX11_span cX11_span 5 (some .int), Cond.methodLink RX11 263 yX1_leastAt, Cond.methodLink RX11 266 yX1_greatestAt, Cond.methodLink RL 84 yX12_span, Cond.instanceMethod yX12_span, Cond.selects RX12 yX12_span yX12_span, Cond.code yX12_span cX12_span 5 (some .int), Cond.methodLink RL 85 yX11_liars, Cond.instanceMethod yX11_liars, Cond.selects RX11 yX11_liars yX11_liars, Cond.code yX11_liars cX11_liars 4 (some .int), Cond.methodLink RX11 269 yX1_sureLiars, Cond.instanceMethod yX1_sureLiars, Cond.selects RX1 yX1_sureLiars yX1_sureLiars, Cond.code yX1_sureLiars cX1_sureLiars 5 (some .int)]
noncomputable def wsL_law_r45 : List Cond := [Cond.methodLink RX1 84 yX1_isSoForSome, Cond.instanceMethod yX1_isSoForSome, Cond.selects RX1 yX1_isSoForSome yX1_isSoForSome, Cond.code yX1_isSoForSome cX1_isSoForSome 4 (some .boolean), Cond.methodLink RL 88 yX12_liars, Cond.instanceMethod yX12_liars, Cond.selects RX12 yX12_liars yX12_liars, Cond.code yX12_liars cX12_liars 7 (some .int), Cond.methodLink RL 89 yX11_next, Cond.instanceMethod yX11_next, Cond.selects RX11 yX11_next yX11_next, Cond.code yX11_next cX11_next 5 (some .int), Cond.fieldLink RX11 276 "TwoAsks$Fitting" "bestSaid" "I", Cond.fieldLink RX11 279 "TwoAsks$Fitting" "bestMost" "I", Cond.methodLink RX11 273 yX1_findQuestion, Cond.instanceMethod yX1_findQuestion, Cond.selects RX1 yX1_findQuestion yX1_findQuestion, Cond.code yX1_findQuestion cX1_findQuestion 3 none, Cond.methodLink RX1 88 yX1_mostAlike, Cond.instanceMethod yX1_mostAlike, Cond.selects RX1 yX1_mostAlike yX1_mostAlike, Cond.code yX1_mostAlike cX1_mostAlike 6 (some .int), Cond.fieldLink RX1 91 "TwoAsks$Worlds" "leaders" "LTwoAsks$Leaders;", Cond.methodLink RX1 95 yX4_clear]
noncomputable def wsL_law_r46 : List Cond := [Cond.methodLink RX1 101 yJ7_fill_fda19, Cond.methodLink RX1 107 yX4_leaderOf, Cond.methodLink RL 92 yX12_next, Cond.instanceMethod yX12_next, Cond.selects RX12 yX12_next yX12_next, Cond.code yX12_next cX12_next 11 (some .int), Cond.methodLink RL 93 yX11_once, Cond.instanceMethod yX11_once, Cond.selects RX11 yX11_once yX11_once, Cond.code yX11_once cX11_once 2 (some .int), Cond.methodLink RL 96 yX12_once, Cond.instanceMethod yX12_once, Cond.selects RX12 yX12_once yX12_once, Cond.code yX12_once cX12_once 2 (some .int), Cond.methodLink RL 97 yX11_few, Cond.instanceMethod yX11_few, Cond.selects RX11 yX11_few yX11_few, Cond.code yX11_few cX11_few 2 (some .int), Cond.methodLink RX11 197 yX10_fewestNumbers, Cond.instanceMethod yX10_fewestNumbers, Cond.selects RX10 yX10_fewestNumbers yX10_fewestNumbers, Cond.code yX10_fewestNumbers cX10_fewestNumbers 3 (some .int), Cond.methodLink RX10 57 yJ7_fill_53178, Cond.static yJ7_fill_53178]
noncomputable def wsL_law_r47 : List Cond := [Cond.code yJ7_fill_53178 cJ7_fill_53178 4 none, Cond.methodLink RX10 63 yX10_partGroups, Cond.instanceMethod yX10_partGroups, Cond.selects RX10 yX10_partGroups yX10_partGroups, Cond.code yX10_partGroups cX10_partGroups 5 (some .boolean), Cond.constantLong RX10 67 (10000), Cond.methodLink RL 100 yX12_few, Cond.instanceMethod yX12_few, Cond.selects RX12 yX12_few yX12_few, Cond.code yX12_few cX12_few 6 (some .int), Cond.constantLong RX12 428 (10000), Cond.methodLink RL 101 yX11_meets, Cond.instanceMethod yX11_meets, Cond.selects RX11 yX11_meets yX11_meets, Cond.code yX11_meets cX11_meets 4 (some .int), Cond.methodLink RX11 158 yX11_areTwoRows, Cond.instanceMethod yX11_areTwoRows, Cond.selects RX11 yX11_areTwoRows yX11_areTwoRows, Cond.code yX11_areTwoRows cX11_areTwoRows 3 (some .boolean), Cond.methodLink RL 104 yX12_meets, Cond.instanceMethod yX12_meets, Cond.selects RX12 yX12_meets yX12_meets, Cond.code yX12_meets cX12_meets 4 (some .int), Cond.methodLink RL 105 yX11_game]
noncomputable def wsL_law_r48 : List Cond := [Cond.instanceMethod yX11_game, Cond.selects RX11 yX11_game yX11_game, Cond.code yX11_game cX11_game 8 (some .int), Cond.fieldLink RX11 213 "TwoAsks$Text" "ask" "LTwoAsks$Law;", Cond.fieldLink RX11 227 "TwoAsks$Worlds" "values" "[J", Cond.methodLink RX11 209 yX1_takeAll, Cond.instanceMethod yX1_takeAll, Cond.selects RX1 yX1_takeAll yX1_takeAll, Cond.code yX1_takeAll cX1_takeAll 2 none, Cond.methodLink RX11 217 yX2_question, Cond.instanceMethod yX2_question, Cond.selects RX2 yX2_question yX2_question, Cond.code yX2_question cX2_question 5 (some .int), Cond.constantLong RX2 55 (1000), Cond.methodLink RX11 223 yX10_comeBy, Cond.methodLink RX11 231 yX1_keep, Cond.instanceMethod yX1_keep, Cond.selects RX1 yX1_keep yX1_keep, Cond.code yX1_keep cX1_keep 5 none, Cond.methodLink RL 108 yX12_game, Cond.instanceMethod yX12_game, Cond.selects RX12 yX12_game yX12_game, Cond.code yX12_game cX12_game 3 (some .int), Cond.fieldLink RX12 469 "TwoAsksModel" "gameLong" "I"]
noncomputable def wsL_law_r49 : List Cond := [Cond.fieldLink RX12 472 "TwoAsksModel" "gameFigures" "I", Cond.methodLink RX12 475 yX12_plays, Cond.instanceMethod yX12_plays, Cond.selects RX12 yX12_plays yX12_plays, Cond.code yX12_plays cX12_plays 8 none, Cond.methodLink RX12 459 yX12_asksAfter, Cond.instanceMethod yX12_asksAfter, Cond.selects RX12 yX12_asksAfter yX12_asksAfter, Cond.code yX12_asksAfter cX12_asksAfter 6 (some .int), Cond.constantLong RX12 457 (1000), Cond.methodLink RL 109 yX11_bad, Cond.instanceMethod yX11_bad, Cond.selects RX11 yX11_bad yX11_bad, Cond.code yX11_bad cX11_bad 3 (some .int), Cond.fieldLink RX11 306 "TwoAsks$Text" "bags" "LTwoAsks$Bags;", Cond.methodLink RX11 303 yX11_isWeighing, Cond.static yX11_isWeighing, Cond.code yX11_isWeighing cX11_isWeighing 2 (some .boolean), Cond.constantLong RX11 301 (999999), Cond.methodLink RX11 310 yX0_setsOff, Cond.instanceMethod yX0_setsOff, Cond.selects RX0 yX0_setsOff yX0_setsOff, Cond.code yX0_setsOff cX0_setsOff 5 (some .int), Cond.methodLink RL 112 yX12_bad]
noncomputable def wsL_law_r50 : List Cond := [Cond.instanceMethod yX12_bad, Cond.selects RX12 yX12_bad yX12_bad, Cond.code yX12_bad cX12_bad 5 (some .int), Cond.constantLong RX12 478 (999999), Cond.methodLink RX12 480 yX12_sumOf, Cond.instanceMethod yX12_sumOf, Cond.selects RX12 yX12_sumOf yX12_sumOf, Cond.code yX12_sumOf cX12_sumOf 4 (some .int), Cond.methodLink RL 113 yX11_badSet, Cond.instanceMethod yX11_badSet, Cond.selects RX11 yX11_badSet yX11_badSet, Cond.code yX11_badSet cX11_badSet 3 (some .int), Cond.methodLink RX11 315 yX0_leastSetOff, Cond.instanceMethod yX0_leastSetOff, Cond.selects RX0 yX0_leastSetOff yX0_leastSetOff, Cond.code yX0_leastSetOff cX0_leastSetOff 4 (some .int), Cond.methodLink RL 116 yX12_badSet, Cond.instanceMethod yX12_badSet, Cond.selects RX12 yX12_badSet yX12_badSet, Cond.code yX12_badSet cX12_badSet 4 (some .int), Cond.methodLink RL 117 yX11_allTold, Cond.instanceMethod yX11_allTold, Cond.selects RX11 yX11_allTold yX11_allTold, Cond.code yX11_allTold cX11_allTold 1 (some .boolean)]
noncomputable def wsL_law_r51 : List Cond := [Cond.methodLink RX11 318 yX0_leastGap, Cond.instanceMethod yX0_leastGap, Cond.selects RX0 yX0_leastGap yX0_leastGap, Cond.code yX0_leastGap cX0_leastGap 3 (some .int), Cond.methodLink RX0 27 yJ7_fill_031fb, Cond.static yJ7_fill_031fb, Cond.code yJ7_fill_031fb cJ7_fill_031fb 4 none, Cond.methodLink RX0 33 yX0_leastBetweenMarks, Cond.instanceMethod yX0_leastBetweenMarks, Cond.selects RX0 yX0_leastBetweenMarks yX0_leastBetweenMarks, Cond.code yX0_leastBetweenMarks cX0_leastBetweenMarks 4 (some .int), Cond.methodLink RX0 36 Lib.Math.min.name, Cond.methodLink RL 121 yX12_allTold, Cond.instanceMethod yX12_allTold, Cond.selects RX12 yX12_allTold yX12_allTold, Cond.code yX12_allTold cX12_allTold 3 (some .boolean), Cond.methodLink RL 122 yX11_secret, Cond.instanceMethod yX11_secret, Cond.selects RX11 yX11_secret yX11_secret, Cond.code yX11_secret cX11_secret 2 (some .int), Cond.methodLink RX11 321 yX11_shareRow, Cond.instanceMethod yX11_shareRow, Cond.selects RX11 yX11_shareRow yX11_shareRow, Cond.code yX11_shareRow cX11_shareRow 3 (some .int)]
noncomputable def wsL_law_r52 : List Cond := [Cond.fieldLink RX11 164 "TwoAsks$Text" "shares" "LTwoAsks$Shares;", Cond.fieldLink RX11 337 "TwoAsks$Shares" "row" "[I", Cond.methodLink RX11 324 yX6_isSet, Cond.instanceMethod yX6_isSet, Cond.selects RX6 yX6_isSet yX6_isSet, Cond.code yX6_isSet cX6_isSet 2 (some .boolean), Cond.methodLink RX6 34 yJ6_bitCount_0f7a4, Cond.static yJ6_bitCount_0f7a4, Cond.initialized RJ6, Cond.code yJ6_bitCount_0f7a4 cJ6_bitCount_0f7a4 1 (some .int), Cond.constant RJ6 265 (1431655765), Cond.constant RJ6 266 (858993459), Cond.constant RJ6 267 (252645135), Cond.methodLink RX11 332 yJ6_bitCount_0f7a4, Cond.methodLink RX11 327 yX6_findRow, Cond.instanceMethod yX6_findRow, Cond.selects RX6 yX6_findRow yX6_findRow, Cond.code yX6_findRow cX6_findRow 5 none, Cond.methodLink RX6 46 yJ7_fill_53178, Cond.methodLink RX6 52 yX6_isIn, Cond.static yX6_isIn, Cond.code yX6_isIn cX6_isIn 2 (some .boolean), Cond.methodLink RX6 56 yX6_othersProduct, Cond.instanceMethod yX6_othersProduct]
noncomputable def wsL_law_r53 : List Cond := [Cond.selects RX6 yX6_othersProduct yX6_othersProduct, Cond.code yX6_othersProduct cX6_othersProduct 6 (some .int), Cond.methodLink RX6 63 yX6_restOf, Cond.instanceMethod yX6_restOf, Cond.selects RX6 yX6_restOf yX6_restOf, Cond.code yX6_restOf cX6_restOf 3 (some .int), Cond.methodLink RX6 40 yJ9_floorMod_f86c9, Cond.static yJ9_floorMod_f86c9, Cond.initialized RJ9, Cond.code yJ9_floorMod_f86c9 cJ9_floorMod_f86c9 6 (some .long), Cond.methodLink RX6 60 yX6_turnedOver, Cond.instanceMethod yX6_turnedOver, Cond.selects RX6 yX6_turnedOver yX6_turnedOver, Cond.code yX6_turnedOver cX6_turnedOver 3 (some .int), Cond.methodLink RL 125 yX12_secret, Cond.instanceMethod yX12_secret, Cond.selects RX12 yX12_secret yX12_secret, Cond.code yX12_secret cX12_secret 2 (some .int), Cond.methodLink RX12 489 yX12_isSet, Cond.instanceMethod yX12_isSet, Cond.selects RX12 yX12_isSet yX12_isSet, Cond.code yX12_isSet cX12_isSet 2 (some .boolean), Cond.methodLink RX12 486 yX12_bits, Cond.static yX12_bits]
noncomputable def wsL_law_r54 : List Cond := [Cond.code yX12_bits cX12_bits 3 (some .int), Cond.methodLink RX12 492 yX12_rowComes, Cond.instanceMethod yX12_rowComes, Cond.selects RX12 yX12_rowComes yX12_rowComes, Cond.code yX12_rowComes cX12_rowComes 7 (some .int), Cond.methodLink RX12 386 yX12_restOf, Cond.instanceMethod yX12_restOf, Cond.selects RX12 yX12_restOf yX12_restOf, Cond.code yX12_restOf cX12_restOf 3 (some .int), Cond.methodLink RX12 483 yX12_turned, Cond.instanceMethod yX12_turned, Cond.selects RX12 yX12_turned yX12_turned, Cond.code yX12_turned cX12_turned 3 (some .int), Cond.methodLink RL 126 yX11_shared, Cond.instanceMethod yX11_shared, Cond.selects RX11 yX11_shared yX11_shared, Cond.code yX11_shared cX11_shared 3 (some .int), Cond.constantLong RX11 162 (96), Cond.methodLink RX11 330 yX6_comesTo, Cond.instanceMethod yX6_comesTo, Cond.selects RX6 yX6_comesTo yX6_comesTo, Cond.code yX6_comesTo cX6_comesTo 4 (some .int), Cond.methodLink RL 129 yX12_shared, Cond.instanceMethod yX12_shared]
noncomputable def wsL_law_r55 : List Cond := [Cond.selects RX12 yX12_shared yX12_shared, Cond.code yX12_shared cX12_shared 3 (some .int), Cond.constantLong RX12 389 (96), Cond.methodLink RL 130 yX11_wrong, Cond.instanceMethod yX11_wrong, Cond.selects RX11 yX11_wrong yX11_wrong, Cond.code yX11_wrong cX11_wrong 2 (some .int), Cond.fieldLink RX11 340 "TwoAsks$Shares" "many" "I", Cond.methodLink RX11 341 yX6_offRow, Cond.instanceMethod yX6_offRow, Cond.selects RX6 yX6_offRow yX6_offRow, Cond.code yX6_offRow cX6_offRow 6 (some .int), Cond.methodLink RX6 70 yX6_isSet, Cond.methodLink RX6 74 yX6_findRow, Cond.methodLink RX6 78 yX6_sharesOff, Cond.instanceMethod yX6_sharesOff, Cond.selects RX6 yX6_sharesOff yX6_sharesOff, Cond.code yX6_sharesOff cX6_sharesOff 3 (some .int), Cond.methodLink RX6 67 yX6_comesTo, Cond.methodLink RL 133 yX12_wrong, Cond.instanceMethod yX12_wrong, Cond.selects RX12 yX12_wrong yX12_wrong, Cond.code yX12_wrong cX12_wrong 6 (some .int), Cond.methodLink RL 134 yX11_hide]
noncomputable def wsL_law_r56 : List Cond := [Cond.instanceMethod yX11_hide, Cond.selects RX11 yX11_hide yX11_hide, Cond.code yX11_hide cX11_hide 2 (some .boolean), Cond.methodLink RL 138 yX12_hide, Cond.instanceMethod yX12_hide, Cond.selects RX12 yX12_hide yX12_hide, Cond.code yX12_hide cX12_hide 2 (some .boolean), Cond.methodLink RL 139 yX11_ask, Cond.instanceMethod yX11_ask, Cond.selects RX11 yX11_ask yX11_ask, Cond.code yX11_ask cX11_ask 4 (some .long), Cond.fieldLink RX11 288 "TwoAsks$Text" "liar" "I", Cond.methodLink RL 143 yX12_ask, Cond.instanceMethod yX12_ask, Cond.selects RX12 yX12_ask yX12_ask, Cond.code yX12_ask cX12_ask 4 (some .long), Cond.methodLink RL 144 yX11_asks, Cond.instanceMethod yX11_asks, Cond.selects RX11 yX11_asks yX11_asks, Cond.code yX11_asks cX11_asks 2 (some .int), Cond.fieldLink RX11 291 "TwoAsks$Told" "answers" "[J", Cond.fieldLink RX11 285 "TwoAsks$Told" "said" "[I", Cond.methodLink RL 147 yX12_asks, Cond.instanceMethod yX12_asks]
noncomputable def wsL_law_r57 : List Cond := [Cond.selects RX12 yX12_asks yX12_asks, Cond.code yX12_asks cX12_asks 1 (some .int), Cond.methodLink RL 148 yX11_enough, Cond.instanceMethod yX11_enough, Cond.selects RX11 yX11_enough yX11_enough, Cond.code yX11_enough cX11_enough 4 (some .int), Cond.methodLink RX11 282 yX1_enoughQuestions, Cond.instanceMethod yX1_enoughQuestions, Cond.selects RX1 yX1_enoughQuestions yX1_enoughQuestions, Cond.code yX1_enoughQuestions cX1_enoughQuestions 2 (some .int), Cond.methodLink RX1 111 yX1_fillAnswers, Cond.instanceMethod yX1_fillAnswers, Cond.selects RX1 yX1_fillAnswers yX1_fillAnswers, Cond.code yX1_fillAnswers cX1_fillAnswers 3 none, Cond.methodLink RX1 114 yX1_isToldApart, Cond.instanceMethod yX1_isToldApart, Cond.selects RX1 yX1_isToldApart yX1_isToldApart, Cond.code yX1_isToldApart cX1_isToldApart 3 (some .boolean), Cond.methodLink RX1 124 yX1_isApartBy, Cond.instanceMethod yX1_isApartBy, Cond.selects RX1 yX1_isApartBy yX1_isApartBy, Cond.code yX1_isApartBy cX1_isApartBy 5 (some .boolean), Cond.methodLink RX1 118 yX1_areGroupsToldApart, Cond.instanceMethod yX1_areGroupsToldApart]
noncomputable def wsL_law_r58 : List Cond := [Cond.selects RX1 yX1_areGroupsToldApart yX1_areGroupsToldApart, Cond.code yX1_areGroupsToldApart cX1_areGroupsToldApart 3 (some .boolean), Cond.methodLink RX1 121 yX1_groupOf, Cond.instanceMethod yX1_groupOf, Cond.selects RX1 yX1_groupOf yX1_groupOf, Cond.code yX1_groupOf cX1_groupOf 5 (some .int), Cond.methodLink RL 151 yX12_enough, Cond.instanceMethod yX12_enough, Cond.selects RX12 yX12_enough yX12_enough, Cond.code yX12_enough cX12_enough 7 (some .int), Cond.methodLink RX12 463 yX12_isOneEnough, Cond.instanceMethod yX12_isOneEnough, Cond.selects RX12 yX12_isOneEnough yX12_isOneEnough, Cond.code yX12_isOneEnough cX12_isOneEnough 6 (some .boolean), Cond.methodLink RX12 466 yX12_areTwoEnough, Cond.instanceMethod yX12_areTwoEnough, Cond.selects RX12 yX12_areTwoEnough yX12_areTwoEnough, Cond.code yX12_areTwoEnough cX12_areTwoEnough 8 (some .boolean), Cond.methodLink RL 152 yX11_shareRow, Cond.methodLink RL 155 yX12_shareRow, Cond.instanceMethod yX12_shareRow, Cond.selects RX12 yX12_shareRow yX12_shareRow, Cond.code yX12_shareRow cX12_shareRow 3 (some .int), Cond.methodLink RX12 495 yX12_fillsRow]
noncomputable def wsL_law_r59 : List Cond := [Cond.instanceMethod yX12_fillsRow, Cond.selects RX12 yX12_fillsRow yX12_fillsRow, Cond.code yX12_fillsRow cX12_fillsRow 8 none, Cond.methodLink RL 156 yX11_cost, Cond.instanceMethod yX11_cost, Cond.selects RX11 yX11_cost yX11_cost, Cond.code yX11_cost cX11_cost 4 (some .int), Cond.methodLink RL 159 yX12_cost, Cond.instanceMethod yX12_cost, Cond.selects RX12 yX12_cost yX12_cost, Cond.code yX12_cost cX12_cost 4 (some .int), Cond.methodLink RL 160 yX11_degree, Cond.instanceMethod yX11_degree, Cond.selects RX11 yX11_degree yX11_degree, Cond.code yX11_degree cX11_degree 3 (some .int), Cond.methodLink RL 163 yX12_degree, Cond.instanceMethod yX12_degree, Cond.selects RX12 yX12_degree yX12_degree, Cond.code yX12_degree cX12_degree 3 (some .int), Cond.methodLink RL 164 yX11_worldsAt, Cond.instanceMethod yX11_worldsAt, Cond.selects RX11 yX11_worldsAt yX11_worldsAt, Cond.code yX11_worldsAt cX11_worldsAt 4 (some .int), Cond.methodLink RX11 205 yX10_howManyComeTo]
noncomputable def wsL_law_r60 : List Cond := [Cond.instanceMethod yX10_howManyComeTo, Cond.selects RX10 yX10_howManyComeTo yX10_howManyComeTo, Cond.code yX10_howManyComeTo cX10_howManyComeTo 6 (some .int), Cond.methodLink RL 167 yX12_worldsAt, Cond.instanceMethod yX12_worldsAt, Cond.selects RX12 yX12_worldsAt yX12_worldsAt, Cond.code yX12_worldsAt cX12_worldsAt 6 (some .int), Cond.methodLink RL 168 yX11_rest, Cond.instanceMethod yX11_rest, Cond.selects RX11 yX11_rest yX11_rest, Cond.code yX11_rest cX11_rest 3 (some .int), Cond.methodLink RX11 168 yX6_restOf, Cond.methodLink RL 171 yX12_rest, Cond.instanceMethod yX12_rest, Cond.selects RX12 yX12_rest yX12_rest, Cond.code yX12_rest cX12_rest 3 (some .int), Cond.methodLink RX12 391 yX12_restBy, Cond.instanceMethod yX12_restBy, Cond.selects RX12 yX12_restBy yX12_restBy, Cond.code yX12_restBy cX12_restBy 5 (some .int), Cond.methodLink RL 172 yX11_alike, Cond.instanceMethod yX11_alike, Cond.selects RX11 yX11_alike yX11_alike, Cond.code yX11_alike cX11_alike 5 (some .int)]
noncomputable def wsL_law_r61 : List Cond := [Cond.fieldLink RX11 173 "TwoAsks$Shares" "prime" "I", Cond.methodLink RL 175 yX12_alike, Cond.instanceMethod yX12_alike, Cond.selects RX12 yX12_alike yX12_alike, Cond.code yX12_alike cX12_alike 5 (some .int), Cond.methodLink RL 176 yX11_plus, Cond.instanceMethod yX11_plus, Cond.selects RX11 yX11_plus yX11_plus, Cond.code yX11_plus cX11_plus 4 (some .int), Cond.constant RX11 180 (-100000), Cond.methodLink RX11 176 yX11_isSumPlace, Cond.instanceMethod yX11_isSumPlace, Cond.selects RX11 yX11_isSumPlace yX11_isSumPlace, Cond.code yX11_isSumPlace cX11_isSumPlace 4 (some .boolean), Cond.methodLink RL 179 yX12_plus, Cond.instanceMethod yX12_plus, Cond.selects RX12 yX12_plus yX12_plus, Cond.code yX12_plus cX12_plus 4 (some .int), Cond.constant RX12 385 (-100000), Cond.methodLink RX12 378 yX12_areRows, Cond.instanceMethod yX12_areRows, Cond.selects RX12 yX12_areRows yX12_areRows, Cond.code yX12_areRows cX12_areRows 4 (some .boolean), Cond.methodLink RX12 382 yX12_placeAt]
noncomputable def wsL_law_r62 : List Cond := [Cond.instanceMethod yX12_placeAt, Cond.selects RX12 yX12_placeAt yX12_placeAt, Cond.code yX12_placeAt cX12_placeAt 3 (some .int), Cond.methodLink RL 180 yX11_times, Cond.instanceMethod yX11_times, Cond.selects RX11 yX11_times yX11_times, Cond.code yX11_times cX11_times 6 (some .int), Cond.methodLink RL 183 yX12_times, Cond.instanceMethod yX12_times, Cond.selects RX12 yX12_times yX12_times, Cond.code yX12_times cX12_times 6 (some .int), Cond.methodLink RL 184 yX11_margin, Cond.instanceMethod yX11_margin, Cond.selects RX11 yX11_margin yX11_margin, Cond.code yX11_margin cX11_margin 1 (some .int), Cond.methodLink RL 187 yX12_margin, Cond.instanceMethod yX12_margin, Cond.selects RX12 yX12_margin yX12_margin, Cond.code yX12_margin cX12_margin 5 (some .int), Cond.methodLink RL 188 yX11_pair, Cond.instanceMethod yX11_pair, Cond.selects RX11 yX11_pair yX11_pair, Cond.code yX11_pair cX11_pair 3 (some .long), Cond.constantLong RX11 344 (999999999)]
noncomputable def wsL_law_r63 : List Cond := [Cond.methodLink RX11 346 yX11_paired, Cond.static yX11_paired, Cond.code yX11_paired cX11_paired 4 (some .long), Cond.methodLink RX11 350 yX11_triangle, Cond.static yX11_triangle, Cond.code yX11_triangle cX11_triangle 2 (some .long), Cond.methodLink RL 191 yX12_pair, Cond.instanceMethod yX12_pair, Cond.selects RX12 yX12_pair yX12_pair, Cond.code yX12_pair cX12_pair 3 (some .long), Cond.constantLong RX12 498 (999999999), Cond.methodLink RX12 500 yX12_paired, Cond.static yX12_paired, Cond.code yX12_paired cX12_paired 6 (some .long), Cond.methodLink RL 192 yX11_unpair, Cond.instanceMethod yX11_unpair, Cond.selects RX11 yX11_unpair yX11_unpair, Cond.code yX11_unpair cX11_unpair 8 (some .long), Cond.constantLong RX11 353 (1073741824), Cond.methodLink RL 196 yX12_unpair, Cond.instanceMethod yX12_unpair, Cond.selects RX12 yX12_unpair yX12_unpair, Cond.code yX12_unpair cX12_unpair 10 (some .long), Cond.constantLong RX12 504 (1500000000)]
noncomputable def wsL_law_r64 : List Cond := [Cond.methodLink RL 197 yX11_number, Cond.instanceMethod yX11_number, Cond.selects RX11 yX11_number yX11_number, Cond.code yX11_number cX11_number 6 (some .long), Cond.methodLink RL 200 yX12_number, Cond.instanceMethod yX12_number, Cond.selects RX12 yX12_number yX12_number, Cond.code yX12_number cX12_number 5 (some .long), Cond.methodLink RL 201 yX11_hold, Cond.instanceMethod yX11_hold, Cond.selects RX11 yX11_hold yX11_hold, Cond.code yX11_hold cX11_hold 2 (some .boolean), Cond.methodLink RX11 294 yX11_isSlot, Cond.static yX11_isSlot, Cond.code yX11_isSlot cX11_isSlot 1 (some .boolean), Cond.methodLink RX11 297 yX9_copy, Cond.instanceMethod yX9_copy, Cond.selects RX9 yX9_copy yX9_copy, Cond.code yX9_copy cX9_copy 2 none, Cond.methodLink RX9 25 arraycopyName, Cond.methodLink RL 204 yX12_hold, Cond.instanceMethod yX12_hold, Cond.selects RX12 yX12_hold yX12_hold, Cond.code yX12_hold cX12_hold 3 (some .boolean)]
noncomputable def wsL_law_r65 : List Cond := [Cond.methodLink RL 205 yX11_restore, Cond.instanceMethod yX11_restore, Cond.selects RX11 yX11_restore yX11_restore, Cond.code yX11_restore cX11_restore 2 (some .boolean), Cond.methodLink RL 208 yX12_restore, Cond.instanceMethod yX12_restore, Cond.selects RX12 yX12_restore yX12_restore, Cond.code yX12_restore cX12_restore 3 (some .boolean), Cond.methodLink RL 209 yX11_count, Cond.instanceMethod yX11_count, Cond.selects RX11 yX11_count yX11_count, Cond.code yX11_count cX11_count 2 (some .int), Cond.fieldLink RX11 355 "TwoAsks$Bags" "many" "I", Cond.methodLink RX11 356 yX11_slotsThatHold, Cond.instanceMethod yX11_slotsThatHold, Cond.selects RX11 yX11_slotsThatHold yX11_slotsThatHold, Cond.code yX11_slotsThatHold cX11_slotsThatHold 3 (some .int), Cond.methodLink RL 212 yX12_count, Cond.instanceMethod yX12_count, Cond.selects RX12 yX12_count yX12_count, Cond.code yX12_count cX12_count 2 (some .int)]
