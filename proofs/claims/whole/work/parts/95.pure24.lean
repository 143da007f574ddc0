/-! laws: ops (kind 0 a number, 1 a look, 2 + 3 - 4 * 5 /), nb tests, where each branch starts, its middle, its test's end -/
abbrev Lw : Type := (Nat → Nat × Int32) × Nat × (Nat → Nat) × (Nat → Nat) × (Nat → Nat)

abbrev Lnb (L : Lw) : Nat := L.2.1
abbrev Lst (L : Lw) (b : Nat) : Nat := L.2.2.1 b
abbrev Lmd (L : Lw) (b : Nat) : Nat := L.2.2.2.1 b
abbrev Lte (L : Lw) (b : Nat) : Nat := L.2.2.2.2 b
/-- what binds two -/
def biF (k : Nat) (a b : Int32) : Int32 := if k = 2 then a + b else if k = 3 then a - b else if k = 4 then a * b else a / b
/-- n ops from c on, on a pile -/
def evL (op : Nat → Nat × Int32) (V : Nat → Int32) : Nat → Nat → List Int32 → Option (List Int32)
  | 0, _, st => some st
  | n + 1, c, st => if (op c).1 = 0 then evL op V n (c + 1) ((op c).2 :: st) else if (op c).1 = 1 then evL op V n (c + 1) (V (op c).2.toInt.toNat :: st) else match st with
    | b :: a :: r => if (op c).1 = 5 ∧ b = 0 then none else evL op V n (c + 1) (biF (op c).1 a b :: r)
    | _ => none
/-- ops x .. y are one E: D tells how high the pile is ahead of each -/
def wfE (op : Nat → Nat × Int32) (x y : Nat) : Prop := x ≤ y ∧ ∃ D : Nat → Nat, D x = 0 ∧ D y = 1 ∧ ∀ c, x ≤ c → c < y → (op c).1 ≤ 5 ∧ D c ≤ 20 ∧ D (c + 1) ≤ 20 ∧ ((op c).1 < 2 → D (c + 1) = D c + 1) ∧ (2 ≤ (op c).1 → 2 ≤ D c ∧ D (c + 1) + 1 = D c) ∧ ((op c).1 = 1 → 0 ≤ (op c).2.toInt ∧ (op c).2.toInt < 6)
def topV (o : Option (List Int32)) : Option Int32 := match o with
  | some (v :: _) => some v
  | _ => none
def evE (op : Nat → Nat × Int32) (V : Nat → Int32) (x y : Nat) : Option Int32 := topV (evL op V (y - x) x [])
def clP (r : Int32) : Int32 := if (-99) < (if r < 99 then r else 99) then (if r < 99 then r else 99) else (-99)
def clO (o : Option Int32) : Int32 := match o with
  | some r => clP r
  | none => 0
/-- what a law tells, with n tests left -/
def tlF (L : Lw) (V : Nat → Int32) : Nat → Int32
  | 0 => clO (evE L.1 V (Lst L (Lnb L)) (Lst L (Lnb L + 1)))
  | n + 1 => match evE L.1 V (Lst L (Lnb L - (n + 1))) (Lmd L (Lnb L - (n + 1))), evE L.1 V (Lmd L (Lnb L - (n + 1))) (Lte L (Lnb L - (n + 1))) with
    | some u, some v => if u < v then clO (evE L.1 V (Lte L (Lnb L - (n + 1))) (Lst L (Lnb L - (n + 1) + 1))) else tlF L V n
    | _, _ => 0
def tellV (L : Lw) (V : Nat → Int32) : Int32 := tlF L V (Lnb L)
def wfL (L : Lw) : Prop := Lnb L ≤ 4 ∧ Lst L 0 = 0 ∧ (∀ b, b < Lnb L → wfE L.1 (Lst L b) (Lmd L b) ∧ wfE L.1 (Lmd L b) (Lte L b) ∧ wfE L.1 (Lte L b) (Lst L (b + 1))) ∧ wfE L.1 (Lst L (Lnb L)) (Lst L (Lnb L + 1)) ∧ Lst L (Lnb L + 1) + 2 * Lnb L + 1 ≤ 402 ∧ Lst L (Lnb L + 1) ≤ 400
/-! the class's -/
def opC (k : Nat) : Int32 := if k = 0 then 1 else if k = 1 then 2 else if k = 2 then 43 else if k = 3 then 45 else if k = 4 then 42 else 47
def isStep (o : Nat) (h : hp) (i : Nat) (p : Nat × Int32) : Prop := gI h (o + 1) i = opC p.1 ∧ (p.1 < 2 → gI h (o + 2) i = p.2)
def cLaw (o : Nat) (h : hp) (L : Lw) : Prop := gI h o 2 = nI (Lst L (Lnb L + 1) + 2 * Lnb L + 1) ∧ (∀ b, b < Lnb L → (∀ c, Lst L b ≤ c → c < Lte L b → isStep o h (c + 2 * b) (L.1 c)) ∧ gI h (o + 1) (Lte L b + 2 * b) = 3 ∧ gI h (o + 2) (Lte L b + 2 * b) = nI (Lst L (b + 1) + 2 * b + 2) ∧ (∀ c, Lte L b ≤ c → c < Lst L (b + 1) → isStep o h (c + 2 * b + 1) (L.1 c)) ∧ gI h (o + 1) (Lst L (b + 1) + 2 * b + 1) = 4) ∧ (∀ c, Lst L (Lnb L) ≤ c → c < Lst L (Lnb L + 1) → isStep o h (c + 2 * Lnb L) (L.1 c)) ∧ gI h (o + 1) (Lst L (Lnb L + 1) + 2 * Lnb L) = 4
/-- a pile lies in a cell -/
def stk (a : Nat) (h : hp) : List Int32 → Prop
  | [] => True
  | v :: r => gI h a r.length = v ∧ stk a h r
theorem stk_put {a k : Nat} {h : hp} {v : Int32} : ∀ st : List Int32, st.length ≤ k → stk a h st → stk a (sI h a k v) st
  | [], _, _ => trivial
  | w :: r, hl, s => by
    have hl : r.length + 1 ≤ k := hl
    exact ⟨by rw [gI_k _ _ (by omega)]; exact s.1, stk_put r (by omega) s.2⟩
/-- the law's scratch -/
def lScr (o : Nat) (a _j : Nat) : Prop := a = o + 4
theorem Law_e {o : Nat} {h h1 : hp} {L : Lw} (e : eqE (lScr o) h h1) (a : cLaw o h L) : cLaw o h1 L := by
  have g0 : gI h1 o 2 = gI h o 2 := eqE_I e (by unfold lScr; omega)
  have g1 : ∀ i, gI h1 (o + 1) i = gI h (o + 1) i := fun i => eqE_I e (by unfold lScr; omega)
  have g2 : ∀ i, gI h1 (o + 2) i = gI h (o + 2) i := fun i => eqE_I e (by unfold lScr; omega)
  unfold cLaw isStep
  simp only [g0, g1, g2]
  exact a
theorem evL_append {op : Nat → Nat × Int32} {V : Nat → Int32} {D : Nat → Nat} {x y : Nat} (hw : ∀ c, x ≤ c → c < y → (op c).1 ≤ 5 ∧ D c ≤ 20 ∧ D (c + 1) ≤ 20 ∧ ((op c).1 < 2 → D (c + 1) = D c + 1) ∧ (2 ≤ (op c).1 → 2 ≤ D c ∧ D (c + 1) + 1 = D c) ∧ ((op c).1 = 1 → 0 ≤ (op c).2.toInt ∧ (op c).2.toInt < 6)) (base : List Int32) : ∀ (n c : Nat) (st : List Int32), n + c = y → x ≤ c → st.length = D c → evL op V n c (st ++ base) = (evL op V n c st).map (· ++ base) ∧ ∀ r, evL op V n c st = some r → r.length = D y
  | 0, c, st, hn, _, hl => by
    have : c = y := by omega
    subst this
    refine ⟨rfl, fun r hr => ?_⟩
    have : st = r := by simpa [evL] using hr
    rw [← this]; exact hl
  | n + 1, c, st, hn, hx, hl => by
    obtain ⟨h1, h2, h3, h4, h5, h6⟩ := hw c hx (by omega)
    unfold evL
    by_cases k0 : (op c).1 = 0
    · rw [if_pos k0, if_pos k0]
      have := evL_append (V := V) hw base n (c + 1) ((op c).2 :: st) (by omega) (by omega) (by rw [h4 (by omega)]; show st.length + 1 = _; omega)
      exact this
    · rw [if_neg k0, if_neg k0]
      by_cases k1 : (op c).1 = 1
      · rw [if_pos k1, if_pos k1]
        exact evL_append hw base n (c + 1) (V (op c).2.toInt.toNat :: st) (by omega) (by omega) (by rw [h4 (by omega)]; show st.length + 1 = _; omega)
      · rw [if_neg k1, if_neg k1]
        obtain ⟨d1, d2⟩ := h5 (by omega)
        match st, hl with
        | [], hl => exact absurd hl (by show ¬ 0 = D c; omega)
        | [_], hl => exact absurd hl (by show ¬ 1 = D c; omega)
        | b :: a :: r, hl =>
          show (if (op c).1 = 5 ∧ b = 0 then none else evL op V n (c + 1) (biF (op c).1 a b :: (r ++ base))) = (if (op c).1 = 5 ∧ b = 0 then none else evL op V n (c + 1) (biF (op c).1 a b :: r)).map (· ++ base) ∧ ∀ r', (if (op c).1 = 5 ∧ b = 0 then none else evL op V n (c + 1) (biF (op c).1 a b :: r)) = some r' → r'.length = D y
          by_cases z : (op c).1 = 5 ∧ b = 0
          · rw [if_pos z, if_pos z]
            exact ⟨rfl, fun r' h => absurd h (by simp)⟩
          · rw [if_neg z, if_neg z]
            have hl : r.length + 2 = D c := hl
            exact evL_append hw base n (c + 1) (biF (op c).1 a b :: r) (by omega) (by omega) (by show r.length + 1 = _; omega)
/-- an E on a pile -/
theorem evE_on {op : Nat → Nat × Int32} {V : Nat → Int32} {x y : Nat} (hw : wfE op x y) (base : List Int32) : evL op V (y - x) x base = (evE op V x y).map (· :: base) := by
  obtain ⟨hxy, D, d0, d1, hD⟩ := hw
  obtain ⟨e1, e2⟩ := evL_append (V := V) (y := y) hD base (y - x) x [] (by omega) (Nat.le_refl _) d0.symm
  have e1 : evL op V (y - x) x base = (evL op V (y - x) x []).map (· ++ base) := e1
  rw [e1]
  unfold evE
  cases h : evL op V (y - x) x [] with
  | none => rfl
  | some r =>
    have := e2 r h
    rw [d1] at this
    match r, this with
    | [v], _ => rfl
theorem joined_q {k : Nat} {a b : Int32} {Q : Int32 → Prop} (hk : 2 ≤ k) (hk5 : k ≤ 5) (hz : ¬ (k = 5 ∧ b = 0)) (hq : Q (biF k a b)) : w_X2_joined (opC k) a b Q := by
  unfold w_X2_joined w_X2_joined_0
  intro sw esw
  have e42 : (42 : Int32).toInt = 42 := rfl
  have : k = 2 ∨ k = 3 ∨ k = 4 ∨ k = 5 := by omega
  rcases this with q | q | q | q
  · subst q
    have esw : sw = 43 := esw
    subst esw
    have hq : Q (a + b) := hq
    exact ⟨fun c => absurd c (by decide), fun _ => hq, fun c => absurd c (by decide), fun c => absurd c (by decide), fun c => absurd c (by decide)⟩
  · subst q
    have esw : sw = 45 := esw
    subst esw
    have hq : Q (a - b) := hq
    exact ⟨fun c => absurd c (by decide), fun c => absurd c (by decide), fun c => absurd c (by decide), fun _ => hq, fun c => absurd c (by decide)⟩
  · subst q
    have esw : sw = 42 := esw
    subst esw
    have hq : Q (a * b) := hq
    exact ⟨fun _ => hq, fun c => absurd c (by decide), fun c => absurd c (by decide), fun c => absurd c (by decide), fun c => absurd c (by decide)⟩
  · subst q
    have esw : sw = 47 := esw
    subst esw
    have hq : Q (a / b) := hq
    have hb : ¬ b = 0 := fun z => hz ⟨rfl, z⟩
    exact ⟨fun c => absurd c (by decide), fun c => absurd c (by decide), fun c => absurd c (by decide), fun c => absurd c (by decide), fun _ => ⟨fun _ => ⟨hb, hq⟩, fun c => absurd c hb⟩⟩
/-- the class walks one E -/
theorem c_walkE {o : Nat} {h0 : hp} {L : Lw} {V : Nat → Int32} {x y sh : Nat} {base : List Int32} {Q : Int32 → hp → Prop} {X : Int32 × Int32 × Int32 × hp → Prop} (hX : ∀ q, w_X2_worth_b6 o Q X q.1 q.2.1 q.2.2.1 q.2.2.2 → X q) (hm : ∃ m, gI h0 o 2 = nI m ∧ y + sh < m ∧ m ≤ 402) (hst : ∀ c, x ≤ c → c < y → isStep o h0 (c + sh) (L.1 c)) (hV : ∀ k, k < 6 → gI h0 (o + 3) k = V k) (hw : wfE L.1 x y) (hb : base.length ≤ 1) (hq0 : evE L.1 V x y = none → ∀ h1, eqE (lScr o) h0 h1 → Q 0 h1) (hq1 : ∀ v t h1, evE L.1 V x y = some v → t ≤ y + sh → eqE (lScr o) h0 h1 → stk (o + 4) h1 (v :: base) → X (nI (base.length + 1), nI (y + sh), nI t, h1)) : ∀ (t : Nat) (h : hp), t ≤ x + sh → eqE (lScr o) h0 h → stk (o + 4) h base → X (nI base.length, nI (x + sh), nI t, h) := by
  obtain ⟨m, gm, hm1, hm2⟩ := hm
  have hw' := hw
  obtain ⟨hxy, D, d0, d1, hD⟩ := hw'
  have eon := evE_on (V := V) hw base
  have key : ∀ (n c : Nat) (st : List Int32) (t : Nat) (h : hp), n + c = y → x ≤ c → st.length = D c + base.length → t ≤ c + sh → eqE (lScr o) h0 h → stk (o + 4) h st → evL L.1 V n c st = (evE L.1 V x y).map (· :: base) → X (nI st.length, nI (c + sh), nI t, h) := by
    intro n
    induction n with
    | zero =>
      intro c st t h hn hx hl ht xh sh' e
      have ec : c = y := by omega
      subst ec
      cases hev : evE L.1 V x c with
      | none => rw [hev] at e; exact absurd e (by simp [evL])
      | some v =>
        rw [hev] at e
        have est : st = v :: base := by simpa [evL] using e
        subst est
        exact hq1 v t h hev ht xh sh'
    | succ n ih =>
      intro c st t h hn hx hl ht xh sh' e
      obtain ⟨w1, w2, w3, w4, w5, w6⟩ := hD c hx (by omega)
      obtain ⟨s1, s2⟩ := hst c hx (by omega)
      have g0 : gI h o 2 = nI m := by rw [eqE_I xh (by unfold lScr; omega)]; exact gm
      have g1 : gI h (o + 1) (c + sh) = opC (L.1 c).1 := by rw [eqE_I xh (by unfold lScr; omega)]; exact s1
      have g2 : (L.1 c).1 < 2 → gI h (o + 2) (c + sh) = (L.1 c).2 := fun z => by rw [eqE_I xh (by unfold lScr; omega)]; exact s2 z
      have g3 : ∀ k, k < 6 → gI h (o + 3) k = V k := fun k hk => by rw [eqE_I xh (by unfold lScr; omega)]; exact hV k hk
      have in1 : vp_in (nI (c + sh)) 402 := in_n (by omega) (by omega)
      have nc : nI (c + sh) + 1 = nI (c + 1 + sh) := by rw [← nI_succ]; congr 1; omega
      unfold evL at e
      apply hX
      unfold w_X2_worth_b6
      rw [g0, ix_n (n := c + sh) (by omega), g1]
      refine ⟨fun q => absurd q (nI_ge (b := 402) (by omega) (by omega)), fun _ => ⟨fun q => absurd q (nI_ge (by omega) (by omega)), fun _ => ⟨fun q => absurd q (nI_ge (b := 42) (by omega) (by omega)), fun _ => ⟨in1, fun x4 e4 => ⟨in1, fun x5 e5 x2 e2 => ?_⟩⟩⟩⟩⟩
      have e2 : x2 = nI (c + sh) + 1 := e2
      rw [nc] at e2
      subst e2 e4
      -- one more on the pile
      have push : ∀ v : Int32, evL L.1 V n (c + 1) (v :: st) = (evE L.1 V x y).map (· :: base) → D (c + 1) = D c + 1 → ∀ h', h' = sI h (o + 4) st.length v → X (nI (st.length + 1), nI (c + 1 + sh), nI (t + 1), h') := by
        intro v ev dc h' eh
        refine ih (c + 1) (v :: st) (t + 1) h' (by omega) (by omega) (by show st.length + 1 = _; omega) (by omega) ?_ ?_ ev
        · rw [eh]; exact eqE_sI xh rfl
        · rw [eh]; exact ⟨gI_at _ _ _ _, stk_put st (Nat.le_refl _) sh'⟩
      have ins : vp_in (nI st.length) 42 := in_n (by omega) (by omega)
      by_cases k0 : (L.1 c).1 = 0
      · rw [if_pos k0] at e
        have ek : opC (L.1 c).1 = 1 := by rw [k0]; rfl
        refine ⟨fun q => absurd ek q, fun _ => ⟨ins, fun h23 e23 y1 ey1 y3 ey3 => ?_⟩⟩
        have e5 : x5 = (L.1 c).2 := by rw [e5]; exact g2 (by omega)
        have e23 : h23 = sI h (o + 4) (ix (nI st.length)) x5 := e23
        have ey1 : y1 = nI st.length + 1 := ey1
        have ey3 : y3 = nI t + 1 := ey3
        rw [ix_n (by omega), e5] at e23
        rw [← nI_succ] at ey1 ey3
        subst ey1 ey3
        exact push _ e (w4 (by omega)) h23 e23
      · rw [if_neg k0] at e
        by_cases k1 : (L.1 c).1 = 1
        · rw [if_pos k1] at e
          have ek : opC (L.1 c).1 = 2 := by rw [k1]; rfl
          obtain ⟨v1, v2⟩ := w6 k1
          have e5 : x5 = (L.1 c).2 := by rw [e5]; exact g2 (by omega)
          obtain ⟨en, hn'⟩ := n_of v1
          have hv6 : (L.1 c).2.toInt.toNat < 6 := by
            have : (L.1 c).2.toInt < 6 := v2
            omega
          rw [en] at e5
          generalize (L.1 c).2.toInt.toNat = kk at en hn' hv6 e5 e
          subst e5
          refine ⟨fun _ => ⟨fun q => absurd ek q, fun _ => ⟨fun q => absurd q (nI_pos (by omega)), fun _ => ⟨fun q => absurd q (nI_ge (b := 6) (by omega) (by omega)), fun _ => ⟨in_n (by omega) (by omega), ?_⟩⟩⟩⟩, fun q => absurd q (by rw [ek]; decide)⟩
          rw [ix_n (n := kk) (by omega), g3 kk hv6]
          refine ⟨ins, fun h26 e26 y1 ey1 y3 ey3 => ?_⟩
          have e26 : h26 = sI h (o + 4) (ix (nI st.length)) (V kk) := e26
          have ey1 : y1 = nI st.length + 1 := ey1
          have ey3 : y3 = nI t + 1 := ey3
          rw [ix_n (by omega)] at e26
          rw [← nI_succ] at ey1 ey3
          subst ey1 ey3
          exact push _ e (w4 (by omega)) h26 e26
        · rw [if_neg k1] at e
          obtain ⟨d1', d2'⟩ := w5 (by omega)
          have k2 : 2 ≤ (L.1 c).1 := by
            have : ¬ (L.1 c).1 = 0 := k0
            have : ¬ (L.1 c).1 = 1 := k1
            omega
          have k5 : (L.1 c).1 ≤ 5 := w1
          have nk : ∀ z : Int32, z = 1 ∨ z = 2 ∨ z = 3 ∨ z = 4 → ¬ opC (L.1 c).1 = z := by
            intro z hz
            have : (L.1 c).1 = 2 ∨ (L.1 c).1 = 3 ∨ (L.1 c).1 = 4 ∨ (L.1 c).1 = 5 := by omega
            rcases this with q | q | q | q <;> rw [q] <;> rcases hz with q2 | q2 | q2 | q2 <;> rw [q2] <;> decide
          match st, hl, sh', e with
          | [], hl, _, _ => exact absurd hl (by show ¬ 0 = D c + base.length; omega)
          | [_], hl, _, _ => exact absurd hl (by show ¬ 1 = D c + base.length; omega)
          | bb :: aa :: r, hl, sh', e =>
            have hl : r.length + 2 = D c + base.length := hl
            have e : (if (L.1 c).1 = 5 ∧ bb = 0 then none else evL L.1 V n (c + 1) (biF (L.1 c).1 aa bb :: r)) = (evE L.1 V x y).map (· :: base) := e
            obtain ⟨sb, sa, sr⟩ := sh'
            have sb : gI h (o + 4) (r.length + 1) = bb := sb
            refine ⟨fun _ => ⟨fun _ => ⟨fun _ => ⟨fun _ => ⟨fun _ x1 ex1 => ?_, fun q => absurd q (nk 3 (by simp))⟩, fun q => absurd (nI_le (a := 2) (by show 2 ≤ r.length + 2; omega) (by omega)) q⟩, fun q => absurd q (nk 4 (by simp))⟩, fun q => absurd q (nk 2 (by simp))⟩, fun q => absurd q (nk 1 (by simp))⟩
            have ex1 : x1 = nI (r.length + 2) + (-1) := ex1
            rw [m1, nI_pred] at ex1
            subst ex1
            have in2 : vp_in (nI (r.length + 1)) 42 := in_n (by omega) (by omega)
            have bind : ¬ ((L.1 c).1 = 5 ∧ bb = 0) → w_X2_worth_198 o Q X (nI (r.length + 1)) (nI (c + 1 + sh)) (nI t) (opC (L.1 c).1) h := by
              intro hz
              rw [if_neg hz] at e
              unfold w_X2_worth_198
              rw [nI_pred, ix_n (n := r.length) (by omega), ix_n (n := r.length + 1) (by omega), sb, sa]
              refine ⟨in_n (by omega) (by omega), in2, joined_q k2 k5 hz ⟨in_n (by omega) (by omega), fun h31 e31 y3 ey3 => ?_⟩⟩
              rw [← nI_succ] at ey3
              subst ey3
              refine ih (c + 1) (biF (L.1 c).1 aa bb :: r) (t + 1) h31 (by omega) (by omega) (by show r.length + 1 = _; omega) (by omega) ?_ ?_ e
              · rw [e31]; exact eqE_sI xh rfl
              · rw [e31]; exact ⟨gI_at _ _ _ _, stk_put r (Nat.le_refl _) sr⟩
            refine ⟨fun q => bind (fun z => q (by rw [z.1]; rfl)), fun q => ⟨in2, fun q2 => bind (fun z => q2 ?_), fun q2 => ?_⟩⟩
            · rw [ix_n (by omega), sb]; exact z.2
            · rw [ix_n (by omega), sb] at q2
              have k5' : (L.1 c).1 = 5 := by
                have : (L.1 c).1 = 2 ∨ (L.1 c).1 = 3 ∨ (L.1 c).1 = 4 ∨ (L.1 c).1 = 5 := by omega
                rcases this with z | z | z | z
                · rw [z] at q; exact absurd q (by decide)
                · rw [z] at q; exact absurd q (by decide)
                · rw [z] at q; exact absurd q (by decide)
                · exact z
              rw [if_pos ⟨k5', q2⟩] at e
              refine hq0 ?_ h xh
              cases hev : evE L.1 V x y with
              | none => rfl
              | some v => rw [hev] at e; exact absurd e (by simp)
  intro t h ht xh sb
  exact key (y - x) x base t h (by omega) (Nat.le_refl _) (by rw [d0]; omega) ht xh sb eon
theorem Lst_le {L : Lw} (w : wfL L) : ∀ n b, n + b = Lnb L → Lst L b ≤ Lst L (Lnb L + 1)
  | 0, b, h => by
    have e : b = Lnb L := by omega
    rw [e]
    exact w.2.2.2.1.1
  | n + 1, b, h => by
    have ih := Lst_le w n (b + 1) (by omega)
    obtain ⟨w1, w2, w3⟩ := w.2.2.1 b (by omega)
    exact Nat.le_trans (Nat.le_trans (Nat.le_trans w1.1 w2.1) w3.1) ih
/-- the class's GIVE -/
theorem c_give {o i : Nat} {h0 h : hp} {L : Lw} {v : Int32} {t : Nat} {Q : Int32 → hp → Prop} {X : Int32 × Int32 × Int32 × hp → Prop} (hX : ∀ q, w_X2_worth_b6 o Q X q.1 q.2.1 q.2.2.1 q.2.2.2 → X q) (hm : ∃ m, gI h0 o 2 = nI m ∧ i < m ∧ m ≤ 402) (hg : gI h0 (o + 1) i = 4) (ht : t ≤ i) (xh : eqE (lScr o) h0 h) (sv : stk (o + 4) h [v]) (hq : Q v h) : X (nI 1, nI i, nI t, h) := by
  obtain ⟨m, gm, hm1, hm2⟩ := hm
  have g0 : gI h o 2 = nI m := by rw [eqE_I xh (by unfold lScr; omega)]; exact gm
  have g1 : gI h (o + 1) i = 4 := by rw [eqE_I xh (by unfold lScr; omega)]; exact hg
  have in1 : vp_in (nI i) 402 := in_n (by omega) (by omega)
  have sv0 : gI h (o + 4) 0 = v := sv.1
  apply hX
  unfold w_X2_worth_b6
  rw [g0, ix_n (n := i) (by omega), g1]
  refine ⟨fun q => absurd q (nI_ge (b := 402) (by omega) (by omega)), fun _ => ⟨fun q => absurd q (nI_ge (by omega) (by omega)), fun _ => ⟨fun q => absurd q (show ¬ (42 : Int32) ≤ nI 1 by decide), fun _ => ⟨in1, fun x4 e4 => ⟨in1, fun x5 e5 x2 e2 => ?_⟩⟩⟩⟩⟩
  subst e4
  refine ⟨fun _ => ⟨fun _ => ⟨fun q => absurd rfl q, fun _ => ⟨fun q => absurd q (show ¬ nI 1 ≤ 0 by decide), fun _ => ?_⟩⟩, fun q => absurd q (by decide)⟩, fun q => absurd q (by decide)⟩
  show vp_in (nI 1 - 1) 42 ∧ Q (gI h (o + 4) (ix (nI 1 - 1))) h
  rw [nI_pred, ix_n (by omega), sv0]
  exact ⟨in_n (by omega) (by omega), hq⟩
theorem clP_0 : clP 0 = 0 := by decide
theorem c_worth {o : Nat} {h : hp} {L : Lw} {V : Nat → Int32} {Q : Int32 → hp → Prop} (a : cLaw o h L) (w : wfL L) (hV : ∀ k, k < 6 → gI h (o + 3) k = V k) (hq : ∀ r h1, eqE (lScr o) h h1 → clP r = tellV L V → Q r h1) : w_X2_worth o h Q := by
  have w' := w
  obtain ⟨n4, s0, wb, wl, w402, _⟩ := w'
  obtain ⟨a0, ab, al, ag⟩ := a
  unfold w_X2_worth w_X2_worth_0 w_X2_worth_6
  intro X hX
  have hX' : ∀ q : Int32 × Int32 × Int32 × hp, w_X2_worth_b6 o Q X q.1 q.2.1 q.2.2.1 q.2.2.2 → X q := hX
  have fin : ∀ {x y sh : Nat} (ev : Option Int32), ev = evE L.1 V x y → (clO ev = tellV L V) → (∃ m, gI h o 2 = nI m ∧ y + sh < m ∧ m ≤ 402) → (∀ c, x ≤ c → c < y → isStep o h (c + sh) (L.1 c)) → wfE L.1 x y → gI h (o + 1) (y + sh) = 4 → ∀ (t : Nat) (g : hp), t ≤ x + sh → eqE (lScr o) h g → X (nI 0, nI (x + sh), nI t, g) := by
    intro x y sh ev eev htv hm hst hw hgv t g ht xg
    refine c_walkE (base := []) hX' hm hst hV hw (by show 0 ≤ 1; omega) (fun e h1 x1 => hq 0 h1 x1 ?_) (fun v t' h1 e ht' x1 sv => c_give (L := L) hX' hm hgv ht' x1 sv (hq v h1 x1 ?_)) t g ht xg trivial
    · rw [clP_0, ← htv, eev, e]; rfl
    · rw [← htv, eev, e]; rfl
  have key : ∀ (n b t : Nat) (g : hp), n + b = Lnb L → t ≤ Lst L b + 2 * b → eqE (lScr o) h g → tlF L V n = tellV L V → X (nI 0, nI (Lst L b + 2 * b), nI t, g) := by
    intro n
    induction n with
    | zero =>
      intro b t g hb ht xg e
      have eb : b = Lnb L := by omega
      subst eb
      exact fin (evE L.1 V (Lst L (Lnb L)) (Lst L (Lnb L + 1))) rfl e ⟨_, a0, by omega, by omega⟩ al wl ag t g ht xg
    | succ n ih =>
      intro b t g hb ht xg e
      have eb : Lnb L - (n + 1) = b := by omega
      obtain ⟨w1, w2, w3⟩ := wb b (by omega)
      obtain ⟨b1, b2, b3, b4, b5⟩ := ab b (by omega)
      have hle := Lst_le w n (b + 1) (by omega)
      have l1 := w1.1
      have l2 := w2.1
      have l3 := w3.1
      unfold tlF at e
      rw [eb] at e
      refine c_walkE (x := Lst L b) (y := Lmd L b) (sh := 2 * b) (base := []) hX' ⟨_, a0, by omega, by omega⟩ (fun c h1 h2 => b1 c h1 (by omega)) hV w1 (by show 0 ≤ 1; omega) (fun ev h1 x1 => hq 0 h1 x1 ?_) (fun u t1 h1 ev ht1 x1 s1 => ?_) t g ht xg trivial
      · rw [ev] at e
        rw [clP_0]; exact e
      · rw [ev] at e
        have x01 := x1
        refine c_walkE (x := Lmd L b) (y := Lte L b) (sh := 2 * b) (base := [u]) hX' ⟨_, a0, by omega, by omega⟩ (fun c h1 h2 => b1 c (by omega) h2) hV w2 (by show 1 ≤ 1; omega) (fun ev2 h2 x2 => hq 0 h2 x2 ?_) (fun v t2 h2 ev2 ht2 x2 s2 => ?_) t1 h1 ht1 x01 s1
        · rw [ev2] at e
          rw [clP_0]; exact e
        · rw [ev2] at e
          have e : (if u < v then clO (evE L.1 V (Lte L b) (Lst L (b + 1))) else tlF L V n) = tellV L V := e
          have g0 : gI h2 o 2 = nI (Lst L (Lnb L + 1) + 2 * Lnb L + 1) := by rw [eqE_I x2 (by unfold lScr; omega)]; exact a0
          have g1 : gI h2 (o + 1) (Lte L b + 2 * b) = 3 := by rw [eqE_I x2 (by unfold lScr; omega)]; exact b2
          have g2 : gI h2 (o + 2) (Lte L b + 2 * b) = nI (Lst L (b + 1) + 2 * b + 2) := by rw [eqE_I x2 (by unfold lScr; omega)]; exact b3
          obtain ⟨sv, su, _⟩ := s2
          have sv : gI h2 (o + 4) 1 = v := sv
          have su : gI h2 (o + 4) 0 = u := su
          have in1 : vp_in (nI (Lte L b + 2 * b)) 402 := in_n (by omega) (by omega)
          show X (nI 2, nI (Lte L b + 2 * b), nI t2, h2)
          apply hX
          unfold w_X2_worth_b6
          rw [g0, ix_n (n := Lte L b + 2 * b) (by omega), g1, g2]
          refine ⟨fun q => absurd q (nI_ge (b := 402) (by omega) (by omega)), fun _ => ⟨fun q => absurd q (nI_ge (by omega) (by omega)), fun _ => ⟨fun q => absurd q (show ¬ (42 : Int32) ≤ nI 2 by decide), fun _ => ⟨in1, fun x4 e4 => ⟨in1, fun x5 e5 x2' e2' => ?_⟩⟩⟩⟩⟩
          have e2' : x2' = nI (Lte L b + 2 * b) + 1 := e2'
          rw [← nI_succ] at e2'
          subst e4 e5 e2'
          refine ⟨fun _ => ⟨fun _ => ⟨fun _ => ⟨fun _ => ⟨fun q => absurd rfl q, fun _ x1' ex1' => ?_⟩, fun q => absurd (show (2 : Int32) ≤ nI 2 by decide) q⟩, fun q => absurd q (by decide)⟩, fun q => absurd q (by decide)⟩, fun q => absurd q (by decide)⟩
          have ex1' : x1' = nI 2 + (-2) := ex1'
          have ex1' : x1' = nI 0 := by rw [ex1']; decide
          subst ex1'
          show vp_in (nI 0) 42 ∧ vp_in (nI 0 + 1) 42 ∧ ((gI h2 (o + 4) (ix (nI 0 + 1)) ≤ gI h2 (o + 4) (ix (nI 0)) → _) ∧ (¬ gI h2 (o + 4) (ix (nI 0 + 1)) ≤ gI h2 (o + 4) (ix (nI 0)) → _))
          rw [← nI_succ, ix_n (n := 0 + 1) (by omega), ix_n (n := 0) (by omega), sv, su]
          refine ⟨in_n (by omega) (by omega), in_n (by omega) (by omega), fun c y ey z ez => ?_, fun c z ez => ?_⟩
          · have ez : z = nI t2 + 1 := ez
            rw [← nI_succ] at ez
            have ey : y = nI (Lst L (b + 1) + 2 * (b + 1)) := by
              rw [ey]
              by_cases q : Lte L b + 2 * b + 1 < Lst L (b + 1) + 2 * b + 2
              · rw [if_pos (nI_lt q (by omega))]; congr 1
              · rw [if_neg (nI_nlt (by omega) (by omega))]; congr 1; omega
            subst ey ez
            rw [if_neg (fun q => by rw [t_lt] at q; rw [t_le] at c; omega)] at e
            exact ih (b + 1) (t2 + 1) h2 (by omega) (by omega) x2 e
          · have ez : z = nI t2 + 1 := ez
            rw [← nI_succ] at ez
            subst ez
            rw [if_pos (by rw [t_lt]; rw [t_le] at c; omega)] at e
            have := fin (x := Lte L b) (y := Lst L (b + 1)) (sh := 2 * b + 1) _ rfl e ⟨_, a0, by omega, by omega⟩ (fun c h1 h2 => b4 c h1 h2) w3 (by exact b5) (t2 + 1) h2 (by omega) x2
            exact this
  have := key (Lnb L) 0 0 h (by omega) (Nat.zero_le _) (eqE_refl h) rfl
  rw [s0] at this
  exact this
/-- what a law looks at when it asks -/
def vF (turn : Int32) (answer : Int64) (said : Int32) (k : Nat) : Int32 := if k = 3 then turn else if k = 4 then (lrem answer 1000).toInt32 else if k = 5 then said else 0
/-- the law's looks too -/
def kScr (o : Nat) (a _j : Nat) : Prop := a = o + 3 ∨ a = o + 4
theorem look_q {o : Nat} {h : hp} {x0 x1 x2 x3 x4 x5 : Int32} {Q : hp → Prop} (hq : ∀ h1, eqE (fun a _ => a = o + 3) h h1 → (∀ V : Nat → Int32, V 0 = x0 → V 1 = x1 → V 2 = x2 → V 3 = x3 → V 4 = x4 → V 5 = x5 → ∀ k, k < 6 → gI h1 (o + 3) k = V k) → Q h1) : w_X2_look o h x0 x1 x2 x3 x4 x5 Q := by
  unfold w_X2_look w_X2_look_0
  refine ⟨by unfold vp_in; decide, fun h1 e1 => ⟨by unfold vp_in; decide, fun h2 e2 => ⟨by unfold vp_in; decide, fun h3 e3 => ⟨by unfold vp_in; decide, fun h4 e4 => ⟨by unfold vp_in; decide, fun h5 e5 => ⟨by unfold vp_in; decide, fun h6 e6 => hq h6 ?_ ?_⟩⟩⟩⟩⟩⟩
  · rw [e6, e5, e4, e3, e2, e1]
    exact eqE_sI (eqE_sI (eqE_sI (eqE_sI (eqE_sI (eqE_sI (eqE_refl h) rfl) rfl) rfl) rfl) rfl) rfl
  · intro V v0 v1 v2 v3 v4 v5 k hk
    have i0 : ix 0 = 0 := by decide
    have i1 : ix 1 = 1 := by decide
    have i2 : ix 2 = 2 := by decide
    have i3 : ix 3 = 3 := by decide
    have i4 : ix 4 = 4 := by decide
    have i5 : ix 5 = 5 := by decide
    rw [i0] at e1
    rw [i1] at e2
    rw [i2] at e3
    rw [i3] at e4
    rw [i4] at e5
    rw [i5] at e6
    have : k = 0 ∨ k = 1 ∨ k = 2 ∨ k = 3 ∨ k = 4 ∨ k = 5 := by omega
    rcases this with q | q | q | q | q | q <;> subst q
    · rw [v0, e6, gI_k _ _ (by decide), e5, gI_k _ _ (by decide), e4, gI_k _ _ (by decide), e3, gI_k _ _ (by decide), e2, gI_k _ _ (by decide), e1]; exact gI_at _ _ _ _
    · rw [v1, e6, gI_k _ _ (by decide), e5, gI_k _ _ (by decide), e4, gI_k _ _ (by decide), e3, gI_k _ _ (by decide), e2]; exact gI_at _ _ _ _
    · rw [v2, e6, gI_k _ _ (by decide), e5, gI_k _ _ (by decide), e4, gI_k _ _ (by decide), e3]; exact gI_at _ _ _ _
    · rw [v3, e6, gI_k _ _ (by decide), e5, gI_k _ _ (by decide), e4]; exact gI_at _ _ _ _
    · rw [v4, e6, gI_k _ _ (by decide), e5]; exact gI_at _ _ _ _
    · rw [v5, e6]; exact gI_at _ _ _ _
theorem Law_l {o : Nat} {h h1 : hp} {L : Lw} (e : eqE (fun a _ => a = o + 3) h h1) (a : cLaw o h L) : cLaw o h1 L := by
  have g0 : gI h1 o 2 = gI h o 2 := eqE_I e (by omega)
  have g1 : ∀ i, gI h1 (o + 1) i = gI h (o + 1) i := fun i => eqE_I e (by omega)
  have g2 : ∀ i, gI h1 (o + 2) i = gI h (o + 2) i := fun i => eqE_I e (by omega)
  unfold cLaw isStep
  simp only [g0, g1, g2]
  exact a
theorem c_question {o : Nat} {h : hp} {L : Lw} {turn said : Int32} {answer : Int64} {Q : Int32 → hp → Prop} (a : cLaw o h L) (w : wfL L) (hq : ∀ h1, eqE (kScr o) h h1 → Q (tellV L (vF turn answer said)) h1) : w_X2_question o h turn answer said Q := by
  unfold w_X2_question w_X2_question_0
  refine look_q (fun h1 x1 v1 => c_worth (Law_l x1 a) w (v1 (vF turn answer said) rfl rfl rfl rfl rfl rfl) (fun r h2 x2 er => ?_))
  have := hq h2 (eqE_trans (eqE_w (fun a _ q => Or.inl q) x1) (eqE_w (fun a _ q => Or.inr q) x2))
  rw [← er] at this
  exact this
theorem c_numberBy {o : Nat} {h : hp} {L : Lw} {x y z : Int32} {Q : Int32 → hp → Prop} (a : cLaw o h L) (w : wfL L) (hq : ∀ h1, eqE (kScr o) h h1 → Q (tellV L (fun k => if k = 0 then x else if k = 1 then y else if k = 2 then z else 0)) h1) : w_X2_numberAt o h x y z Q := by
  unfold w_X2_numberAt w_X2_numberAt_0
  refine look_q (fun h1 x1 v1 => c_worth (Law_l x1 a) w (v1 (fun k => if k = 0 then x else if k = 1 then y else if k = 2 then z else 0) rfl rfl rfl rfl rfl rfl) (fun r h2 x2 er => ?_))
  have := hq h2 (eqE_trans (eqE_w (fun a _ q => Or.inl q) x1) (eqE_w (fun a _ q => Or.inr q) x2))
  rw [← er] at this
  exact this
/-! the reference's -/
def mLaw (i : Nat) (h : hp) (L : Lw) : Prop := ∃ f base : Nat, gI h 22 i = nI f ∧ gI h 23 i = nI (f + Lnb L + 1) ∧ f + Lnb L + 1 ≤ 260 ∧ base + Lst L (Lnb L + 1) ≤ 840 ∧ (∀ b, b < Lnb L → gI h 24 (f + b) = 1 ∧ gI h 25 (f + b) = nI (base + Lst L b) ∧ gI h 26 (f + b) = nI (base + Lmd L b) ∧ gI h 27 (f + b) = nI (base + Lte L b) ∧ gI h 28 (f + b) = nI (base + Lst L (b + 1))) ∧ (gI h 24 (f + Lnb L) = 0 ∧ gI h 27 (f + Lnb L) = nI (base + Lst L (Lnb L)) ∧ gI h 28 (f + Lnb L) = nI (base + Lst L (Lnb L + 1))) ∧ ∀ c, c < Lst L (Lnb L + 1) → gI h 29 (base + c) = nI (L.1 c).1 ∧ ((L.1 c).1 < 2 → gI h 30 (base + c) = (L.1 c).2)
def tmScr (a j : Nat) : Prop := a = 33 ∨ (a = 0 ∧ j = 50)
theorem tmScr_m : ∀ a j, tmScr a j → mScr a j := fun a j h => by unfold tmScr at h; unfold mScr; omega
theorem m_termOf {h : hp} {L : Lw} {V : Nat → Int32} {base x y : Nat} {Q : Int32 → hp → Prop} (hb : base + y ≤ 840) (hop : ∀ c, x ≤ c → c < y → gI h 29 (base + c) = nI (L.1 c).1 ∧ ((L.1 c).1 < 2 → gI h 30 (base + c) = (L.1 c).2)) (hV : ∀ k, k < 6 → gI h 32 k = V k) (hw : wfE L.1 x y) (hq0 : evE L.1 V x y = none → ∀ h1, eqE tmScr h h1 → gI h1 0 50 = 1 → Q 0 h1) (hq1 : ∀ v h1, evE L.1 V x y = some v → eqE tmScr h h1 → gI h1 0 50 = gI h 0 50 → Q v h1) : w_X12_termOf h (nI (base + x)) (nI (base + y)) Q := by
  have hw' := hw
  obtain ⟨hxy, D, d0, d1, hD⟩ := hw'
  have eon := evE_on (V := V) hw []
  have z0 : (0 : Int32).toInt = 0 := rfl
  unfold w_X12_termOf w_X12_termOf_0 w_X12_termOf_5
  intro X hX
  have key : ∀ (n c : Nat) (st : List Int32) (g : hp), n + c = y → x ≤ c → st.length = D c → eqE tmScr h g → gI g 0 50 = gI h 0 50 → stk 33 g st → evL L.1 V n c st = (evE L.1 V x y).map (· :: []) → X (nI st.length, nI (base + c), g) := by
    intro n
    induction n with
    | zero =>
      intro c st g hn hx hl xg e50 sg e
      have ec : c = y := by omega
      subst ec
      cases hev : evE L.1 V x c with
      | none => rw [hev] at e; exact absurd e (by simp [evL])
      | some v =>
        rw [hev] at e
        have est : st = [v] := by simpa [evL] using e
        subst est
        have s0 : gI g 33 0 = v := sg.1
        apply hX
        refine ⟨fun _ => ⟨by unfold vp_in; decide, ?_⟩, fun q => absurd (nI_le (Nat.le_refl _) (by omega)) q⟩
        show Q (gI g 33 0) g
        rw [s0]
        exact hq1 v g hev xg e50
    | succ n ih =>
      intro c st g hn hx hl xg e50 sg e
      obtain ⟨w1, w2, w3, w4, w5, w6⟩ := hD c hx (by omega)
      obtain ⟨p1, p2⟩ := hop c hx (by omega)
      have g1 : gI g 29 (base + c) = nI (L.1 c).1 := by rw [eqE_I xg (by unfold tmScr; omega)]; exact p1
      have g2 : (L.1 c).1 < 2 → gI g 30 (base + c) = (L.1 c).2 := fun z => by rw [eqE_I xg (by unfold tmScr; omega)]; exact p2 z
      have g3 : ∀ k, k < 6 → gI g 32 k = V k := fun k hk => by rw [eqE_I xg (by unfold tmScr; omega)]; exact hV k hk
      have in1 : vp_in (nI (base + c)) 840 := in_n (by omega) (by omega)
      have nc : nI (base + c) + 1 = nI (base + (c + 1)) := by rw [← nI_succ]; rfl
      unfold evL at e
      apply hX
      unfold w_X12_termOf_b5
      rw [ix_n (n := base + c) (by omega), g1]
      refine ⟨fun q => absurd q (nI_ge (by omega) (by omega)), fun _ => ⟨in1, fun x5 e5 => ?_⟩⟩
      subst e5
      have push : ∀ v : Int32, evL L.1 V n (c + 1) (v :: st) = (evE L.1 V x y).map (· :: []) → D (c + 1) = D c + 1 → w_X12_termOf_58 Q X (nI (base + y)) (nI st.length) (nI (base + c)) g v (nI st.length) := by
        intro v ev dc
        refine ⟨in_n (by omega) (by omega), fun h11 e11 y3 ey3 y4 ey4 => ?_⟩
        rw [ix_n (by omega)] at e11
        rw [nc] at ey4
        rw [← nI_succ] at ey3
        subst ey3 ey4
        refine ih (c + 1) (v :: st) h11 (by omega) (by omega) (by show st.length + 1 = _; omega) ?_ ?_ ?_ ev
        · rw [e11]; exact eqE_sI xg (Or.inl rfl)
        · rw [e11, gI_o _ _ (by decide)]; exact e50
        · rw [e11]; exact ⟨gI_at _ _ _ _, stk_put st (Nat.le_refl _) sg⟩
      by_cases k0 : (L.1 c).1 = 0
      · rw [if_pos k0] at e
        refine ⟨fun q => absurd q (by rw [k0]; decide), fun _ => ⟨fun q => absurd (by rw [k0]; rfl) q, fun _ => ⟨in1, ?_⟩⟩⟩
        rw [g2 (by omega)]
        exact push _ e (w4 (by omega))
      · rw [if_neg k0] at e
        by_cases k1 : (L.1 c).1 = 1
        · rw [if_pos k1] at e
          obtain ⟨v1, v2⟩ := w6 k1
          obtain ⟨en, hn'⟩ := n_of v1
          have hv6 : (L.1 c).2.toInt.toNat < 6 := by omega
          have e30 := g2 (by omega)
          rw [en] at e30
          generalize (L.1 c).2.toInt.toNat = kk at en hn' hv6 e30 e
          refine ⟨fun q => absurd q (by rw [k1]; decide), fun _ => ⟨fun _ => ⟨in1, ?_⟩, fun q => absurd q (by rw [k1]; decide)⟩⟩
          show vp_in (gI g 30 (base + c)) 6 ∧ w_X12_termOf_58 Q X (nI (base + y)) (nI st.length) (nI (base + c)) g (gI g 32 (ix (gI g 30 (base + c)))) (nI st.length)
          rw [e30, ix_n (n := kk) (by omega), g3 kk hv6]
          exact ⟨in_n (by omega) (by omega), push _ e (w4 (by omega))⟩
        · rw [if_neg k1] at e
          have k2 : 2 ≤ (L.1 c).1 := by omega
          obtain ⟨d1', d2'⟩ := w5 k2
          match st, hl, sg, e with
          | [], hl, _, _ => exact absurd hl (by show ¬ 0 = D c; omega)
          | [_], hl, _, _ => exact absurd hl (by show ¬ 1 = D c; omega)
          | bb :: aa :: r, hl, sg, e =>
            have hl : r.length + 2 = D c := hl
            have e : (if (L.1 c).1 = 5 ∧ bb = 0 then none else evL L.1 V n (c + 1) (biF (L.1 c).1 aa bb :: r)) = (evE L.1 V x y).map (· :: []) := e
            obtain ⟨sb, sa, sr⟩ := sg
            have sb : gI g 33 (r.length + 1) = bb := sb
            refine ⟨fun _ x3 ex3 => ?_, fun q => absurd (nI_le (a := 2) k2 (by omega)) q⟩
            have ex3 : x3 = nI (r.length + 2) + (-1) := ex3
            rw [m1, nI_pred] at ex3
            subst ex3
            rw [nI_pred, ix_n (n := r.length) (by omega), ix_n (n := r.length + 1) (by omega)]
            refine ⟨in_n (by omega) (by omega), fun x6 e6 => ⟨in_n (by omega) (by omega), fun x7 e7 => ?_⟩⟩
            have e6 : x6 = gI g 33 r.length := e6
            have e7 : x7 = gI g 33 (r.length + 1) := e7
            rw [sa] at e6
            rw [sb] at e7
            have bind : ¬ ((L.1 c).1 = 5 ∧ bb = 0) → w_X12_termOf_104 Q X (nI (base + y)) (nI (r.length + 1)) (nI (base + c)) (nI (L.1 c).1) x6 x7 g := by
              intro hz
              rw [if_neg hz] at e
              have put : ∀ v, v = biF (L.1 c).1 aa bb → w_X12_termOf_158 Q X (nI (base + y)) (nI (r.length + 1)) (nI (base + c)) g v (nI (r.length + 1) - 1) := by
                intro v ev
                unfold w_X12_termOf_158
                rw [nI_pred, ix_n (n := r.length) (by omega)]
                refine ⟨in_n (by omega) (by omega), fun h17 e17 y4 ey4 => ?_⟩
                rw [nc] at ey4
                subst ey4
                refine ih (c + 1) (biF (L.1 c).1 aa bb :: r) h17 (by omega) (by omega) (by show r.length + 1 = _; omega) ?_ ?_ ?_ e
                · rw [e17]; exact eqE_sI xg (Or.inl rfl)
                · rw [e17, gI_o _ _ (by decide)]; exact e50
                · rw [e17, ev]; exact ⟨gI_at _ _ _ _, stk_put r (Nat.le_refl _) sr⟩
              rw [e6, e7]
              have q2 : nI (L.1 c).1 = 2 ↔ (L.1 c).1 = 2 := nI_eq (b := 2) (by omega) (by omega)
              have q3 : nI (L.1 c).1 = 3 ↔ (L.1 c).1 = 3 := nI_eq (b := 3) (by omega) (by omega)
              have q4 : nI (L.1 c).1 = 4 ↔ (L.1 c).1 = 4 := nI_eq (b := 4) (by omega) (by omega)
              unfold w_X12_termOf_104
              rw [q2, q3, q4]
              unfold biF at put
              refine ⟨fun z2 => ⟨fun z3 => ⟨fun z4 => ⟨fun zb => hz ⟨by omega, zb⟩, put _ ?_⟩, fun z4 => put _ ?_⟩, fun z3 => put _ ?_⟩, fun z2 => put _ ?_⟩
              · rw [if_neg z2, if_neg z3, if_neg z4]
              · rw [if_neg z2, if_neg z3, if_pos z4]
              · rw [if_neg z2, if_pos z3]
              · rw [if_pos z2]
            have q5 : nI (L.1 c).1 = 5 ↔ (L.1 c).1 = 5 := nI_eq (b := 5) (by omega) (by omega)
            rw [q5]
            refine ⟨fun q => bind (fun z => q z.1), fun q => ⟨fun q2 => bind (fun z => q2 (by rw [e7]; exact z.2)), fun q2 h9 e9 => ?_⟩⟩
            rw [e7] at q2
            rw [if_pos ⟨q, q2⟩] at e
            refine hq0 ?_ h9 ?_ ?_
            · cases hev : evE L.1 V x y with
              | none => rfl
              | some v => rw [hev] at e; exact absurd e (by simp)
            · rw [e9]; exact eqE_sI xg (Or.inr ⟨rfl, rfl⟩)
            · rw [e9]; exact gI_at _ _ _ _
  exact key (y - x) x [] h (by omega) (Nat.le_refl _) d0.symm (eqE_refl h) rfl trivial eon
theorem clP_m (r : Int32) : clP r = if (-99) ≤ r then (if r ≤ 99 then r else 99) else -99 := by
  have e1 : (-99 : Int32).toInt = -99 := rfl
  have e2 : (99 : Int32).toInt = 99 := rfl
  unfold clP
  by_cases c1 : r < 99
  · rw [if_pos c1]
    rw [t_lt, e2] at c1
    by_cases c2 : (-99) < r
    · rw [if_pos c2]
      rw [t_lt, e1] at c2
      rw [if_pos (by rw [t_le, e1]; omega), if_pos (by rw [t_le, e2]; omega)]
    · rw [if_neg c2]
      rw [t_lt, e1] at c2
      by_cases c3 : (-99) ≤ r
      · rw [if_pos c3, if_pos (by rw [t_le, e2]; omega)]
        rw [t_le, e1] at c3
        exact t_eq.mpr (by rw [e1]; omega)
      · rw [if_neg c3]
  · rw [if_neg c1, if_pos (by decide)]
    rw [t_lt, e2] at c1
    rw [if_pos (by rw [t_le, e1]; omega)]
    by_cases c2 : r ≤ 99
    · rw [if_pos c2]
      rw [t_le, e2] at c2
      exact t_eq.mpr (by rw [e2]; omega)
    · rw [if_neg c2]
theorem m_tellsBy {h : hp} {i : Nat} {L : Lw} {V : Nat → Int32} {Q : Int32 → hp → Prop} (hi : i < 4) (a : mLaw i h L) (w : wfL L) (hV : ∀ k, k < 6 → gI h 32 k = V k) (hq : ∀ h1, eqE tmScr h h1 → Q (tellV L V) h1) : w_X12_tellsBy h (nI i) Q := by
  have w' := w
  obtain ⟨n4, s0, wb, wl, w402, _⟩ := w'
  obtain ⟨f, base, a22, a23, a260, a840, ab, al, ao⟩ := a
  have ini : vp_in (nI i) 4 := in_n hi (by omega)
  unfold w_X12_tellsBy w_X12_tellsBy_0
  intro h1 e1
  have x1 : eqE tmScr h h1 := by rw [e1]; exact eqE_sI (eqE_refl h) (Or.inr ⟨rfl, rfl⟩)
  have b1 : gI h1 0 50 = 0 := by rw [e1]; exact gI_at _ _ _ _
  clear e1
  have gS : ∀ {g : hp}, eqE tmScr h g → gI g 23 i = nI (f + Lnb L + 1) ∧ (∀ b, b < Lnb L → gI g 24 (f + b) = 1 ∧ gI g 25 (f + b) = nI (base + Lst L b) ∧ gI g 26 (f + b) = nI (base + Lmd L b) ∧ gI g 27 (f + b) = nI (base + Lte L b) ∧ gI g 28 (f + b) = nI (base + Lst L (b + 1))) ∧ (gI g 24 (f + Lnb L) = 0 ∧ gI g 27 (f + Lnb L) = nI (base + Lst L (Lnb L)) ∧ gI g 28 (f + Lnb L) = nI (base + Lst L (Lnb L + 1))) ∧ (∀ c, c < Lst L (Lnb L + 1) → gI g 29 (base + c) = nI (L.1 c).1 ∧ ((L.1 c).1 < 2 → gI g 30 (base + c) = (L.1 c).2)) ∧ ∀ k, k < 6 → gI g 32 k = V k := fun {g} e => by
    have r : ∀ a j, ¬ tmScr a j → gI g a j = gI h a j := fun a j n => eqE_I e n
    refine ⟨by rw [r _ _ (by unfold tmScr; omega)]; exact a23, fun b hb => ?_, ?_, fun c hc => ?_, fun k hk => by rw [r _ _ (by unfold tmScr; omega)]; exact hV k hk⟩
    · rw [r _ _ (by unfold tmScr; omega), r _ _ (by unfold tmScr; omega), r _ _ (by unfold tmScr; omega), r _ _ (by unfold tmScr; omega), r _ _ (by unfold tmScr; omega)]; exact ab b hb
    · rw [r _ _ (by unfold tmScr; omega), r _ _ (by unfold tmScr; omega), r _ _ (by unfold tmScr; omega)]; exact al
    · rw [r _ _ (by unfold tmScr; omega), r _ _ (by unfold tmScr; omega)]; exact ao c hc
  refine ⟨ini, fun x2 e2 => ?_⟩
  rw [ix_n (by omega), eqE_I x1 (by unfold tmScr; omega), a22] at e2
  subst e2
  unfold w_X12_tellsBy_12
  intro X hX
  -- the term of a branch
  have term : ∀ (b x y : Nat) (g : hp), b ≤ Lnb L → eqE tmScr h g → gI g 0 50 = 0 → gI g 27 (f + b) = nI (base + x) → gI g 28 (f + b) = nI (base + y) → y ≤ Lst L (Lnb L + 1) → wfE L.1 x y → clO (evE L.1 V x y) = tellV L V → w_X12_tellsBy_84 Q (nI (f + b)) g := by
    intro b x y g hb xg b50 g27 g28 hy hw e
    obtain ⟨_, _, _, go, gv⟩ := gS xg
    have inb : vp_in (nI (f + b)) 260 := in_n (by omega) (by omega)
    unfold w_X12_tellsBy_84
    rw [ix_n (n := f + b) (by omega), g27, g28]
    refine ⟨inb, inb, m_termOf (V := V) (by omega) (fun c h1 h2 => go c (by omega)) gv hw (fun ev h12 x12 b12 => ⟨fun q => absurd q (by rw [b12]; decide), fun _ => ?_⟩) (fun v h12 ev x12 b12 => ⟨fun _ => ?_, fun q => absurd (by rw [b12]; exact b50) q⟩)⟩
    · rw [ev] at e
      have := hq h12 (eqE_trans xg x12)
      rw [← e] at this
      exact this
    · rw [ev] at e
      have := hq h12 (eqE_trans xg x12)
      rw [← e] at this
      have : Q (clP v) h12 := this
      rw [clP_m] at this
      refine ⟨fun c1 => ⟨fun c2 => ?_, fun c2 => ?_⟩, fun c1 => ?_⟩
      · rw [if_pos c1, if_pos c2] at this; exact this
      · rw [if_pos c1, if_neg c2] at this; exact this
      · rw [if_neg c1] at this; exact this
  have key : ∀ (n b : Nat) (g : hp), n + b = Lnb L → eqE tmScr h g → gI g 0 50 = 0 → tlF L V n = tellV L V → X (nI (f + b), g) := by
    intro n
    induction n with
    | zero =>
      intro b g hb xg b50 e
      have eb : b = Lnb L := by omega
      subst eb
      obtain ⟨g23, _, gl, _, _⟩ := gS xg
      apply hX
      unfold w_X12_tellsBy_b12
      rw [ix_n (n := i) (by omega), g23, ix_n (n := f + Lnb L) (by omega), gl.1]
      refine ⟨ini, fun q => absurd q (nI_ge (by omega) (by omega)), fun _ => ⟨in_n (by omega) (by omega), fun _ => ?_, fun q => absurd rfl q⟩⟩
      exact term (Lnb L) _ _ g (Nat.le_refl _) xg b50 gl.2.1 gl.2.2 (Nat.le_refl _) wl e
    | succ n ih =>
      intro b g hb xg b50 e
      have eb : Lnb L - (n + 1) = b := by omega
      obtain ⟨w1, w2, w3⟩ := wb b (by omega)
      obtain ⟨g23, gb, gl, go, gv⟩ := gS xg
      obtain ⟨c24, c25, c26, c27, c28⟩ := gb b (by omega)
      have hle := Lst_le w n (b + 1) (by omega)
      have l1 := w1.1
      have l2 := w2.1
      have l3 := w3.1
      have inb : vp_in (nI (f + b)) 260 := in_n (by omega) (by omega)
      unfold tlF at e
      rw [eb] at e
      apply hX
      unfold w_X12_tellsBy_b12
      rw [ix_n (n := i) (by omega), g23, ix_n (n := f + b) (by omega), c24, c25, c26]
      refine ⟨ini, fun q => absurd q (nI_ge (by omega) (by omega)), fun _ => ⟨inb, fun q => absurd q (by decide), fun _ => ⟨inb, inb, ?_⟩⟩⟩
      -- behind the first E
      have snd : ∀ (r : Int32) (g5 : hp), eqE tmScr h g5 → ((evE L.1 V (Lst L b) (Lmd L b) = none ∧ gI g5 0 50 = 1) ∨ (evE L.1 V (Lst L b) (Lmd L b) = some r ∧ gI g5 0 50 = 0)) → (vp_in (nI (f + b)) 260 ∧ (vp_in (nI (f + b)) 260 ∧ (w_X12_termOf g5 (gI g5 26 (f + b)) (gI g5 27 (f + b)) (fun r8 h7 => ((gI h7 0 50) = 0 → ((r < r8 → (w_X12_tellsBy_84 Q (nI (f + b)) h7)) ∧ (¬ (r < r8) → (∀ x2_11, x2_11 = nI (f + b) + 1 → (X (x2_11, h7)))))) ∧ (¬ ((gI h7 0 50) = 0) → (Q 0 h7)))))) := by
        intro r g5 x5 hr
        obtain ⟨_, gb5, _, go5, gv5⟩ := gS x5
        obtain ⟨_, _, d26, d27, _⟩ := gb5 b (by omega)
        rw [d26, d27]
        refine ⟨inb, inb, m_termOf (V := V) (by omega) (fun c h1 h2 => go5 c (by omega)) gv5 w2 (fun ev h7 x7 b7 => ⟨fun q => absurd q (by rw [b7]; decide), fun _ => ?_⟩) (fun v h7 ev x7 b7 => ?_)⟩
        · have := hq h7 (eqE_trans x5 x7)
          rw [← e, ev] at this
          rcases hr with q | q
          · rw [q.1] at this; exact this
          · rw [q.1] at this; exact this
        · have x57 := eqE_trans x5 x7
          rcases hr with q | q
          · refine ⟨fun z => absurd z (by rw [b7, q.2]; decide), fun _ => ?_⟩
            have := hq h7 x57
            rw [← e, q.1] at this
            exact this
          · rw [q.1, ev] at e
            have e : (if r < v then clO (evE L.1 V (Lte L b) (Lst L (b + 1))) else tlF L V n) = tellV L V := e
            have b70 : gI h7 0 50 = 0 := by rw [b7]; exact q.2
            obtain ⟨_, gb7, _, _, _⟩ := gS x57
            obtain ⟨_, _, _, f27, f28⟩ := gb7 b (by omega)
            refine ⟨fun _ => ⟨fun c => ?_, fun c u eu => ?_⟩, fun z => absurd b70 z⟩
            · rw [if_pos c] at e
              exact term b _ _ h7 (by omega) x57 b70 f27 f28 (by omega) w3 e
            · rw [if_neg c] at e
              rw [← nI_succ] at eu
              subst eu
              exact ih (b + 1) h7 (by omega) x57 b70 e
      refine m_termOf (V := V) (by omega) (fun c h1 h2 => go c (by omega)) gv w1 (fun ev h5 x5 b5 => snd 0 h5 (eqE_trans xg x5) (Or.inl ⟨ev, b5⟩)) (fun v h5 ev x5 b5 => snd v h5 (eqE_trans xg x5) (Or.inr ⟨ev, by rw [b5]; exact b50⟩))
  exact key (Lnb L) 0 h1 (by omega) x1 b1 rfl
/-! asks -/
def dfL : Lw := (fun c => if c = 0 then (1, 3) else if c = 1 then (0, 1) else (2, 0), 0, fun b => 3 * b, fun _ => 0, fun _ => 0)
def mAsk (s : Nat) (h : hp) (L : Lw) : Prop := mLaw (2 * s) h L ∧ ¬ gI h 22 (2 * s) = gI h 23 (2 * s) ∨ (gI h 22 (2 * s) = gI h 23 (2 * s) ∧ L = dfL)
theorem dfL_v {V : Nat → Int32} (h1 : -99 ≤ (V 3).toInt) (h2 : (V 3).toInt ≤ 98) : tellV dfL V = V 3 + 1 := by
  have e1 : (1 : Int32).toInt = 1 := rfl
  have e99 : (99 : Int32).toInt = 99 := rfl
  have en : (-99 : Int32).toInt = -99 := rfl
  have e : tellV dfL V = clP (V 3 + 1) := rfl
  have es : (V 3 + 1).toInt = (V 3).toInt + 1 := by rw [t_add (by rw [e1]; omega) (by rw [e1]; omega), e1]
  rw [e, clP_m, if_pos (by rw [t_le, es, en]; omega), if_pos (by rw [t_le, es, e99]; omega)]
theorem m_asksAfter {h : hp} {s : Nat} {L : Lw} {turn said : Int32} {answer : Int64} {Q : Int32 → hp → Prop} (t : mAt h s) (a : mAsk s h L) (w : wfL L) (ht1 : 0 ≤ turn.toInt) (ht2 : turn.toInt ≤ 50) (hq : ∀ h1, eqE (fun a j => a = 32 ∨ tmScr a j) h h1 → Q (tellV L (vF turn answer said)) h1) : w_X12_asksAfter h turn answer said Q := by
  have hs := t.2
  have e2s : 2 * gI h 0 18 = nI (2 * s) := by rw [t.1, show (2 : Int32) = nI 2 from rfl, nI_mul (by omega) (by omega) (by omega)]
  have in4 : vp_in (nI (2 * s)) 4 := in_n (by omega) (by omega)
  unfold w_X12_asksAfter w_X12_asksAfter_0
  rw [e2s, ix_n (n := 2 * s) (by omega)]
  refine ⟨in4, in4, fun c => ?_, fun c => ?_⟩
  · have a : mLaw (2 * s) h L := by
      rcases a with ⟨a, _⟩ | a
      · exact a
      · exact absurd a.1 c
    unfold w_X12_asksAfter_32
    intro X hX
    have key : ∀ (n k : Nat) (g : hp), n + k = 3 → eqE (fun a _ => a = 32) h g → (∀ j, j < k → gI g 32 j = 0) → X (nI k, g) := by
      intro n
      induction n with
      | zero =>
        intro k g hk xg zg
        have ek : k = 3 := by omega
        subst ek
        apply hX
        refine ⟨fun _ => ⟨by unfold vp_in; decide, fun h3 e3 => ⟨by unfold vp_in; decide, fun h4 e4 => ⟨by unfold vp_in; decide, fun h5 e5 => ?_⟩⟩⟩, fun q => absurd (show (3 : Int32) ≤ nI 3 by decide) q⟩
        have e3 : h3 = sI g 32 3 turn := e3
        have e4 : h4 = sI h3 32 4 (lrem answer 1000).toInt32 := e4
        have e5 : h5 = sI h4 32 5 said := e5
        have x5 : eqE (fun a _ => a = 32) h h5 := by rw [e5, e4, e3]; exact eqE_sI (eqE_sI (eqE_sI xg rfl) rfl) rfl
        have v5 : ∀ k, k < 6 → gI h5 32 k = vF turn answer said k := fun k hk => by
          have : k = 0 ∨ k = 1 ∨ k = 2 ∨ k = 3 ∨ k = 4 ∨ k = 5 := by omega
          rcases this with q | q | q | q | q | q <;> subst q
          · rw [e5, gI_k _ _ (by decide), e4, gI_k _ _ (by decide), e3, gI_k _ _ (by decide)]; exact zg 0 (by omega)
          · rw [e5, gI_k _ _ (by decide), e4, gI_k _ _ (by decide), e3, gI_k _ _ (by decide)]; exact zg 1 (by omega)
          · rw [e5, gI_k _ _ (by decide), e4, gI_k _ _ (by decide), e3, gI_k _ _ (by decide)]; exact zg 2 (by omega)
          · rw [e5, gI_k _ _ (by decide), e4, gI_k _ _ (by decide), e3]; exact gI_at _ _ _ _
          · rw [e5, gI_k _ _ (by decide), e4]; exact gI_at _ _ _ _
          · rw [e5]; exact gI_at _ _ _ _
        have a5 : mLaw (2 * s) h5 L := by
          have r : ∀ a j, ¬ a = 32 → gI h5 a j = gI h a j := fun a j n => eqE_I x5 n
          unfold mLaw at a ⊢
          simp only [r 22 _ (by decide), r 23 _ (by decide), r 24 _ (by decide), r 25 _ (by decide), r 26 _ (by decide), r 27 _ (by decide), r 28 _ (by decide), r 29 _ (by decide), r 30 _ (by decide)]
          exact a
        have e18 : 2 * gI h5 0 18 = nI (2 * s) := by rw [eqE_I x5 (by decide)]; exact e2s
        rw [e18]
        refine m_tellsBy (by omega) a5 w v5 (fun h6 x6 => hq h6 (eqE_trans (eqE_w (fun a _ q => Or.inl q) x5) (eqE_w (fun a _ q => Or.inr q) x6)))
      | succ n ih =>
        intro k g hk xg zg
        apply hX
        refine ⟨fun q => absurd q (nI_ge (b := 3) (by omega) (by omega)), fun _ => ⟨in_n (by omega) (by omega), fun h8 e8 u eu => ?_⟩⟩
        have e8 : h8 = sI g 32 (ix (nI k)) 0 := e8
        have eu : u = nI k + 1 := eu
        rw [ix_n (by omega)] at e8
        rw [← nI_succ] at eu
        subst eu
        refine ih (k + 1) h8 (by omega) ?_ (fun j hj => ?_)
        · rw [e8]; exact eqE_sI xg rfl
        · by_cases z : j = k
          · subst z
            rw [e8]; exact gI_at _ _ _ _
          · rw [e8, gI_k _ _ z]; exact zg j (by omega)
    exact key 3 0 h (by omega) (eqE_refl h) (fun j h => by omega)
  · rcases a with ⟨_, a⟩ | ⟨_, a⟩
    · exact absurd c a
    · subst a
      have := hq h (eqE_refl h)
      rw [dfL_v (V := vF turn answer said) (by show -99 ≤ turn.toInt; omega) (by show turn.toInt ≤ 98; omega)] at this
      exact this
def asksV (L : Lw) (D : Nat) (A : Nat → Int32) (B : Nat → Int64) : Int32 := if D = 0 then tellV L (vF 0 0 0) else tellV L (vF (nI D) (B (D - 1)) (A (D - 1)))
theorem kScr_c {o : Nat} (ho : isO o) : ∀ a j, kScr (o + 4) a j → cScr a j := fun a j h => by
  unfold kScr at h
  unfold cScr
  rcases ho with q | q
  · subst q; omega
  · subst q; omega
theorem c_asks {h : hp} {o D : Nat} {L : Lw} {A : Nat → Int32} {B : Nat → Int64} {Q : Int32 → hp → Prop} (t : cAt h o) (ho : isO o) (d : cTold 51 h D A B) (hD : D ≤ 20) (a : cLaw (o + 4) h L) (w : wfL L) (hq : ∀ h1, eqE cScr h h1 → Q (asksV L D A B) h1) : w_X11_asks h Q := by
  unfold w_X11_asks w_X11_asks_0
  unfold asksV at hq
  rw [t.1, d.1]
  refine ⟨fun c x1 e1 => ⟨t.2, ?_⟩, fun c => ⟨t.2, ?_⟩⟩
  · have c : ¬ D = 0 := fun q => c (by rw [q]; rfl)
    obtain ⟨D', rfl⟩ : ∃ D', D = D' + 1 := ⟨D - 1, by omega⟩
    rw [nI_pred] at e1
    subst e1
    rw [if_neg c] at hq
    have inD : vp_in (nI D') 20 := in_n (by omega) (by omega)
    rw [ix_n (by omega), (d.2 D' (by omega)).1, (d.2 D' (by omega)).2]
    exact ⟨inD, inD, c_question a w (fun h1 x1 => hq h1 (eqE_w (kScr_c ho) x1))⟩
  · have c := (nI_eq (b := 0) (by omega) (by omega)).mp c
    rw [if_pos c] at hq
    exact c_question a w (fun h1 x1 => hq h1 (eqE_w (kScr_c ho) x1))
theorem aScr_m : ∀ a j, (a = 32 ∨ tmScr a j) → mScr a j := fun a j h => by unfold tmScr at h; unfold mScr; omega
theorem m_asks {h : hp} {s D : Nat} {L : Lw} {A : Nat → Int32} {B : Nat → Int64} {Q : Int32 → hp → Prop} (t : mAt h s) (d : mTold h D A B) (hD : D ≤ 20) (a : mAsk s h L) (w : wfL L) (hq : ∀ h1, eqE mScr h h1 → Q (asksV L D A B) h1) : w_X12_asks h Q := by
  have eD := n_toInt (n := D) (by omega)
  unfold w_X12_asks w_X12_asks_0
  unfold asksV at hq
  rw [d.1]
  refine ⟨fun c => ?_, fun c => ?_⟩
  · have c : ¬ D = 0 := fun q => c (by rw [q]; rfl)
    obtain ⟨D', rfl⟩ : ∃ D', D = D' + 1 := ⟨D - 1, by omega⟩
    rw [if_neg c] at hq
    have inD : vp_in (nI D') 20 := in_n (by omega) (by omega)
    rw [nI_pred, ix_n (by omega), (d.2 D' (by omega)).1, (d.2 D' (by omega)).2]
    exact ⟨inD, inD, m_asksAfter t a w (by omega) (by omega) (fun h1 x1 => hq h1 (eqE_w aScr_m x1))⟩
  · have c := (nI_eq (b := 0) (by omega) (by omega)).mp c
    rw [if_pos c] at hq
    exact m_asksAfter t a w (by decide) (by decide) (fun h1 x1 => hq h1 (eqE_w aScr_m x1))
/-! game -/
theorem cLaw_e {o : Nat} {h h1 : hp} {L : Lw} (ho : isO o) (e : eqE cScr h h1) (a : cLaw (o + 4) h L) : cLaw (o + 4) h1 L := by
  have g0 : gI h1 (o + 4) 2 = gI h (o + 4) 2 := eqE_I e (by unfold cScr; rcases ho with q | q <;> subst q <;> omega)
  have g1 : ∀ i, gI h1 (o + 4 + 1) i = gI h (o + 4 + 1) i := fun i => eqE_I e (by unfold cScr; rcases ho with q | q <;> subst q <;> omega)
  have g2 : ∀ i, gI h1 (o + 4 + 2) i = gI h (o + 4 + 2) i := fun i => eqE_I e (by unfold cScr; rcases ho with q | q <;> subst q <;> omega)
  unfold cLaw isStep
  simp only [g0, g1, g2]
  exact a
theorem mLaw_e {i : Nat} {h h1 : hp} {L : Lw} (e : eqE mScr h h1) (a : mLaw i h L) : mLaw i h1 L := by
  have r : ∀ a j, (22 ≤ a ∧ a ≤ 30) → gI h1 a j = gI h a j := fun a j n => eqE_I e (by unfold mScr; omega)
  unfold mLaw at a ⊢
  simp only [r 22 _ (by decide), r 23 _ (by decide), r 24 _ (by decide), r 25 _ (by decide), r 26 _ (by decide), r 27 _ (by decide), r 28 _ (by decide), r 29 _ (by decide), r 30 _ (by decide)]
  exact a
theorem mAsk_e {s : Nat} {h h1 : hp} {L : Lw} (e : eqE mScr h h1) (a : mAsk s h L) : mAsk s h1 L := by
  have r : ∀ a j, (22 ≤ a ∧ a ≤ 30) → gI h1 a j = gI h a j := fun a j n => eqE_I e (by unfold mScr; omega)
  rcases a with ⟨a, b⟩ | ⟨a, b⟩
  · exact Or.inl ⟨mLaw_e e a, by rw [r _ _ (by decide), r _ _ (by decide)]; exact b⟩
  · exact Or.inr ⟨by rw [r _ _ (by decide), r _ _ (by decide)]; exact a, b⟩
theorem cAt_e {h h1 : hp} {o : Nat} (e : eqE cScr h h1) (t : cAt h o) : cAt h1 o := ⟨by rw [e.2]; exact t.1, t.2⟩
theorem cn_congr {P P' : Nat → Bool} : ∀ n, (∀ i, i < n → P i = P' i) → cn P n = cn P' n
  | 0, _ => rfl
  | n + 1, h => by
    show cn P n + (if P n = true then 1 else 0) = cn P' n + (if P' n = true then 1 else 0)
    rw [cn_congr n (fun i hi => h i (by omega)), h n (by omega)]
theorem cn_all : ∀ n, cn (fun _ => true) n = n
  | 0 => rfl
  | n + 1 => by
    show cn (fun _ => true) n + (if true = true then 1 else 0) = n + 1
    rw [cn_all n, if_pos rfl]
def kpB (P : Nat → Bool) (f : Nat → Int64) (v : Int64) (i : Nat) : Bool := P i && decide (f i = v)
theorem c_keep {h : hp} {W G : Nat} {b v : Int64} {P : Nat → Bool} {Q : hp → Prop} (ok : okW W G) (vl : cVal h W G b) (fi : cFit h P ((G + 1) ^ W)) (hq : ∀ h1, eqE cScr h h1 → cFit h1 (kpB P (wcF W G b) v) ((G + 1) ^ W) → Q h1) : w_X1_keep h v Q := by
  obtain ⟨o1, o2, o3, o4⟩ := id ok
  have hM := pow_W (G := G) (j := W) o4 o2
  unfold w_X1_keep w_X1_keep_0 w_X1_keep_5
  intro X hX
  unfold cVal at vl
  have vl : ∀ i, i < (G + 1) ^ W → gL h 65 i = wcF W G b i := vl
  generalize (G + 1) ^ W = M at hM vl fi hq
  generalize wcF W G b = f at vl hq
  have sub : ∀ i, kpB P f v i = true → P i = true := fun i hi => by
    unfold kpB at hi
    rw [Bool.and_eq_true] at hi
    exact hi.1
  have key : ∀ (n j : Nat) (g : hp), n + j = M → eqE cScr h g → gI g 71 1 = nI (cn P M) → (∀ i, i < M → gL g 65 i = f i) → (∀ i, j ≤ i → i < M → P i = true → gI g 72 (cn P i) = nI i) → (∀ i, i < j → kpB P f v i = true → gI g 72 (cn (kpB P f v) i) = nI i) → X (nI (cn (kpB P f v) j), nI (cn P j), g) := by
    intro n
    induction n with
    | zero =>
      intro j g hj xg mg vg ug pg
      have ej : j = M := by omega
      subst ej
      have hc := cn_le P j
      apply hX
      unfold w_X1_keep_b5
      rw [mg]
      refine ⟨fun _ h2 e2 => ?_, fun c => absurd (nI_le (Nat.le_refl _) (by omega)) c⟩
      have e2 : h2 = sI g 71 1 (nI (cn (kpB P f v) j)) := e2
      subst e2
      refine hq _ (eqE_sI xg (by unfold cScr; omega)) ⟨gI_at _ _ _ _, fun i hi hpi => ?_⟩
      rw [gI_o _ _ (by decide)]; exact pg i hi hpi
    | succ n ih =>
      intro j g hj xg mg vg ug pg
      have nxt := ih (j + 1)
      by_cases pj : P j = true
      · have hc := cn_le P M
        have hlt := cn_lt (P := P) (show j < M by omega) pj
        have hcs := cn_sub sub j
        have ec : cn P (j + 1) = cn P j + 1 := by
          show cn P j + _ = _
          rw [if_pos pj]
        rw [ec] at nxt
        have u1 := ug j (Nat.le_refl _) (by omega) pj
        have in1 : vp_in (nI (cn P j)) 10000 := in_n (by omega) (by omega)
        apply hX
        unfold w_X1_keep_b5
        rw [mg, ix_n (n := cn P j) (by omega), u1, ix_n (n := j) (by omega), vg j (by omega)]
        refine ⟨fun c => absurd c (nI_ge (by omega) (by omega)), fun _ => ⟨in1, in_n (by omega) (by omega), fun c u eu => ?_, fun c => ⟨in1, in_n (by omega) (by omega), fun h5 e5 y ey u eu => ?_⟩⟩⟩
        · have np : ¬ kpB P f v j = true := fun q => by
            unfold kpB at q
            rw [Bool.and_eq_true] at q
            exact c (of_decide_eq_true q.2)
          have ec2 : cn (kpB P f v) (j + 1) = cn (kpB P f v) j := by
            show cn (kpB P f v) j + _ = _
            rw [if_neg np, Nat.add_zero]
          rw [ec2] at nxt
          rw [← nI_succ] at eu
          subst eu
          refine nxt g (by omega) xg mg vg (fun i h1 h2 h3 => ug i (by omega) h2 h3) (fun i h1 h2 => ?_)
          rcases Nat.lt_or_ge i j with q | q
          · exact pg i q h2
          · exact absurd (by rw [show j = i from by omega]; exact h2) np
        · have pp : kpB P f v j = true := by
            unfold kpB
            rw [pj, decide_eq_true c]
            rfl
          have ec2 : cn (kpB P f v) (j + 1) = cn (kpB P f v) j + 1 := by
            show cn (kpB P f v) j + _ = _
            rw [if_pos pp]
          rw [ec2] at nxt
          have e5 : h5 = sI g 72 (ix (nI (cn (kpB P f v) j))) (nI j) := e5
          rw [ix_n (by omega)] at e5
          rw [← nI_succ] at eu ey
          subst eu ey
          refine nxt h5 (by omega) ?_ ?_ (fun i hi => ?_) (fun i h1 h2 h3 => ?_) (fun i h1 h2 => ?_)
          · rw [e5]; exact eqE_sI xg (by unfold cScr; omega)
          · rw [e5, gI_o _ _ (by decide)]; exact mg
          · rw [e5, gL_sI]; exact vg i hi
          · have hl := cn_lt (P := P) (show j < i by omega) pj
            rw [e5, gI_k _ _ (by omega)]
            exact ug i (by omega) h2 h3
          · rcases Nat.lt_or_ge i j with q | q
            · have hl := cn_lt (P := kpB P f v) q h2
              rw [e5, gI_k _ _ (by omega)]
              exact pg i q h2
            · rw [show i = j from by omega, e5]
              exact gI_at _ _ _ _
      · have e1 : cn P (j + 1) = cn P j := by
          show cn P j + _ = _
          rw [if_neg pj, Nat.add_zero]
        have np : ¬ kpB P f v j = true := fun q => pj (sub j q)
        have e2 : cn (kpB P f v) (j + 1) = cn (kpB P f v) j := by
          show cn (kpB P f v) j + _ = _
          rw [if_neg np, Nat.add_zero]
        have := nxt g (by omega) xg mg vg (fun i h1 h2 h3 => ug i (by omega) h2 h3) (fun i h1 h2 => by
          rcases Nat.lt_or_ge i j with q | q
          · exact pg i q h2
          · exact absurd (by rw [show j = i from by omega]; exact h2) np)
        rw [e1, e2] at this
        exact this
  exact key M 0 h (by omega) (eqE_refl h) fi.1 vl (fun i _ h2 h3 => fi.2 i h2 h3) (fun i hi => by omega)
theorem c_takeAll {h : hp} {W G : Nat} {Q : hp → Prop} (a : cWld h W G) (ok : okW W G) (hq : ∀ h1, eqE cScr h h1 → cFit h1 (fun _ => true) ((G + 1) ^ W) → Q h1) : w_X1_takeAll h Q := by
  obtain ⟨o1, o2, o3, o4⟩ := id ok
  have hM := pow_W (G := G) (j := W) o4 o2
  unfold w_X1_takeAll w_X1_takeAll_0
  intro h1 e1
  have x1 : eqE cScr h h1 := by rw [e1]; exact eqE_sI (eqE_refl h) (by unfold cScr; omega)
  rw [a.2.1] at e1
  have m1 : gI h1 71 1 = nI ((G + 1) ^ W) := by rw [e1]; exact gI_at _ _ _ _
  clear e1
  unfold w_X1_takeAll_13
  intro X hX
  generalize (G + 1) ^ W = M at hM m1 hq
  have key : ∀ (n j : Nat) (g : hp), n + j = M → eqE cScr h g → gI g 71 1 = nI M → (∀ i, i < j → gI g 72 i = nI i) → X (nI j, g) := by
    intro n
    induction n with
    | zero =>
      intro j g hj xg mg pg
      have ej : j = M := by omega
      subst ej
      apply hX
      unfold w_X1_takeAll_b13
      rw [mg]
      exact ⟨fun _ => hq g xg ⟨by rw [cn_all]; exact mg, fun i hi _ => by rw [cn_all]; exact pg i hi⟩, fun c => absurd (nI_le (Nat.le_refl _) (by omega)) c⟩
    | succ n ih =>
      intro j g hj xg mg pg
      apply hX
      unfold w_X1_takeAll_b13
      rw [mg, ix_n (n := j) (by omega)]
      refine ⟨fun c => absurd c (nI_ge (by omega) (by omega)), fun _ => ⟨in_n (by omega) (by omega), fun h3 e3 u eu => ?_⟩⟩
      rw [← nI_succ] at eu
      subst eu
      refine ih (j + 1) h3 (by omega) ?_ ?_ (fun i hi => ?_)
      · rw [e3]; exact eqE_sI xg (by unfold cScr; omega)
      · rw [e3, gI_o _ _ (by decide)]; exact mg
      · by_cases z : i = j
        · subst z
          rw [e3]; exact gI_at _ _ _ _
        · rw [e3, gI_k _ _ z]; exact pg i (by omega)
  exact key M 0 h1 (by omega) x1 m1 (fun i h => by omega)
def gmE (M : Nat) (x : Int32) (P : Nat → Bool) (q : Nat) (fig : Int32) : Int32 := if x = 1 then fig else if cn P M ≤ 1 then nI q else -2
def gmF (L : Lw) (W G M wd : Nat) (x : Int32) : Nat → (Nat → Bool) → Int32 → Int32 → Int64 → Int32
  | 0, P, fig, _, _ => gmE M x P 50 fig
  | n + 1, P, fig, said, ans => if cn P M ≤ 1 then gmE M x P (50 - (n + 1)) fig else gmF L W G M wd x n (kpB P (wcF W G (tellV L (vF (nI (50 - (n + 1))) ans said)).toInt64) (wcV W G wd (tellV L (vF (nI (50 - (n + 1))) ans said)).toInt64)) (fig + nI (figV (tellV L (vF (nI (50 - (n + 1))) ans said)).toInt64)) (tellV L (vF (nI (50 - (n + 1))) ans said)) (wcV W G wd (tellV L (vF (nI (50 - (n + 1))) ans said)).toInt64)
abbrev isGm (M : Nat) (w x : Int32) : Prop := (0 ≤ w.toInt ∧ w.toInt < (M : Int)) ∧ 0 ≤ x.toInt ∧ x.toInt ≤ 1
theorem c_game {h : hp} {o W G : Nat} {L : Lw} {w x : Int32} {Q : Int32 → hp → Prop} (t : cAt h o) (ho : isO o) (a : cWld h W G) (ok : okW W G) (la : cLaw (o + 4) h L) (wl : wfL L) (hq1 : ∀ h1, isGm ((G + 1) ^ W) w x → eqE cScr h h1 → Q (gmF L W G ((G + 1) ^ W) w.toInt.toNat x 50 (fun _ => true) 0 0 0) h1) (hq0 : ¬ isGm ((G + 1) ^ W) w x → Q (-1) h) : w_X11_game h w x Q := by
  obtain ⟨o1, o2, o3, o4⟩ := id ok
  have hM := pow_W (G := G) (j := W) o4 o2
  have z0 : (0 : Int32).toInt = 0 := rfl
  have eM := n_toInt (n := (G + 1) ^ W) (by omega)
  unfold w_X11_game w_X11_game_0 w_X11_isWorld w_X11_isWorld_0
  rw [a.2.1]
  refine ⟨fun c => ⟨fun _ => hq0 (fun q => ?_), fun q => absurd rfl q⟩, fun c => ⟨fun c2 => ⟨fun _ => hq0 (fun q => ?_), fun q => absurd rfl q⟩, fun c2 => ⟨fun q => absurd q (by decide), fun _ => ?_⟩⟩⟩
  · rw [t_lt, z0] at c; have := q.1.1; omega
  · rw [t_le, eM] at c2; have := q.1.2; omega
  · rw [t_lt, z0] at c
    rw [t_le, eM] at c2
    refine c_within (fun c3 => ⟨fun _ => ?_, fun q => absurd q (by decide)⟩) (fun c3 => ⟨fun q => absurd rfl q, fun _ => hq0 (fun q => c3 (by rw [tL_int]; exact q.2))⟩)
    rw [tL_int] at c3
    have c3 : 0 ≤ x.toInt ∧ x.toInt ≤ 1 := c3
    have hq := fun h1 => hq1 h1 ⟨⟨by omega, by omega⟩, c3⟩
    obtain ⟨ew, hw⟩ := n_of (x := w) (by omega)
    have hwd : w.toInt.toNat < (G + 1) ^ W := by omega
    generalize w.toInt.toNat = wd at ew hw hwd hq
    have c := True.intro
    have c2 := True.intro
    have hq1 := True.intro
    have hq0 := True.intro
    subst ew
    refine c_takeAll a ok (fun h7 x7 f7 => ?_)
    unfold w_X11_game_38
    intro X hX
    have key : ∀ (n : Nat) (P : Nat → Bool) (fig said : Int32) (ans : Int64) (g : hp), n ≤ 50 → eqE cScr h g → cFit g P ((G + 1) ^ W) → (∀ h1, eqE cScr h h1 → Q (gmF L W G ((G + 1) ^ W) wd x n P fig said ans) h1) → X (nI (50 - n), fig, said, ans, g) := by
      intro n
      induction n with
      | zero =>
        intro P fig said ans g _ xg fg hq
        have hq := hq g xg
        have hcn := cn_le P ((G + 1) ^ W)
        unfold gmF gmE at hq
        apply hX
        refine ⟨fun _ => ⟨fun cx => ?_, fun cx => ?_⟩, fun q => absurd (show (50 : Int32) ≤ nI 50 by decide) q⟩
        · rw [if_neg cx] at hq
          show (gI g 71 1 ≤ 1 → _) ∧ (¬ gI g 71 1 ≤ 1 → _)
          rw [fg.1]
          refine ⟨fun cz => ?_, fun cz => ?_⟩
          · rw [if_pos ((nI_leI (b := 1) (by omega) (by omega)).mp cz)] at hq; exact hq
          · rw [if_neg (fun q => cz (nI_le (b := 1) q (by omega)))] at hq; exact hq
        · rw [if_pos cx] at hq; exact hq
      | succ n ih =>
        intro P fig said ans g hn xg fg hq
        have hcn := cn_le P ((G + 1) ^ W)
        unfold gmF at hq
        apply hX
        unfold w_X11_game_b38
        rw [fg.1]
        refine ⟨fun q => absurd q (nI_ge (b := 50) (by omega) (by omega)), fun _ => ⟨fun cz => ?_, fun cz => ?_⟩⟩
        · have cz := (nI_leI (b := 1) (by omega) (by omega)).mp cz
          have hq := hq g xg
          rw [if_pos cz] at hq
          unfold gmE at hq
          refine ⟨fun cx => ?_, fun cx => ?_⟩
          · rw [if_neg cx, if_pos cz] at hq
            rw [fg.1]
            exact ⟨fun _ => hq, fun q => absurd (nI_le (b := 1) cz (by omega)) q⟩
          · rw [if_pos cx] at hq; exact hq
        · have cz : ¬ cn P ((G + 1) ^ W) ≤ 1 := fun q => cz (nI_le (b := 1) q (by omega))
          have hq := fun h1 e => by have := hq h1 e; rw [if_neg cz] at this; exact this
          have tg := cAt_e xg t
          rw [tg.1]
          refine ⟨t.2, c_question (cLaw_e ho xg la) wl (fun h11 x11 => ?_)⟩
          have x011 := eqE_trans xg (eqE_w (kScr_c ho) x11)
          have f11 : cFit h11 P ((G + 1) ^ W) := by
            have nk : ∀ a j, (a = 71 ∨ a = 72) → gI h11 a j = gI g a j := fun a j hh => eqE_I x11 (by unfold kScr; rcases ho with q | q <;> subst q <;> omega)
            exact ⟨by rw [nk _ _ (Or.inl rfl)]; exact fg.1, fun i hi hpi => by rw [nk _ _ (Or.inr rfl)]; exact fg.2 i hi hpi⟩
          show w_X10_comeBy h11 (tellV L (vF (nI (50 - (n + 1))) ans said)).toInt64 _
          generalize tellV L (vF (nI (50 - (n + 1))) ans said) = sd at hq
          refine c_comeBy (cWld_e x011 a) ok (fun h13 x13 v13 => ⟨in_n (by omega) hw, fun an ean => ?_⟩)
          have ean : an = gL h13 65 (ix (nI wd)) := ean
          rw [ix_n hw, v13 wd hwd] at ean
          subst ean
          refine c_keep ok v13 (cFit_v x13 f11) (fun h15 x15 f15 => c_figures (by rw [tL_int]; have := b_lo sd; omega) (fun y ey u eu => ?_))
          have ey : y = fig + nI (figV sd.toInt64) := ey
          have eu : u = nI (50 - (n + 1)) + 1 := eu
          rw [← nI_succ, show 50 - (n + 1) + 1 = 50 - n from by omega] at eu
          subst ey eu
          exact ih _ _ _ _ h15 (by omega) (eqE_trans (eqE_trans x011 (eqE_w vScr_c x13)) x15) f15 hq
    exact key 50 _ 0 0 0 h7 (Nat.le_refl _) x7 f7 hq
theorem cn_drop {P : Nat → Bool} {f : Nat → Int64} {v : Int64} {M j : Nat} (hj : j < M) : cn (fun i => if i < j + 1 then kpB P f v i else P i) M + (if P j = true ∧ ¬ f j = v then 1 else 0) = cn (fun i => if i < j then kpB P f v i else P i) M := by
  have low : ∀ n, n ≤ j → cn (fun i => if i < j + 1 then kpB P f v i else P i) n = cn (fun i => if i < j then kpB P f v i else P i) n := fun n hn => cn_congr n (fun i hi => by
    show (if i < j + 1 then kpB P f v i else P i) = (if i < j then kpB P f v i else P i)
    rw [if_pos (show i < j + 1 by omega), if_pos (show i < j by omega)])
  have hi : ∀ n, cn (fun i => if i < j + 1 then kpB P f v i else P i) (j + 1 + n) + (if P j = true ∧ ¬ f j = v then 1 else 0) = cn (fun i => if i < j then kpB P f v i else P i) (j + 1 + n) := by
    intro n
    induction n with
    | zero =>
      show cn (fun i => if i < j + 1 then kpB P f v i else P i) j + (if (if j < j + 1 then kpB P f v j else P j) = true then 1 else 0) + _ = cn (fun i => if i < j then kpB P f v i else P i) j + (if (if j < j then kpB P f v j else P j) = true then 1 else 0)
      rw [low j (Nat.le_refl _), if_pos (Nat.lt_succ_self j), if_neg (Nat.lt_irrefl j)]
      by_cases p : P j = true
      · by_cases e : f j = v
        · have k1 : kpB P f v j = true := by
            unfold kpB
            rw [p, decide_eq_true e]
            rfl
          rw [if_pos k1, if_neg (show ¬ (P j = true ∧ ¬ f j = v) from fun q => q.2 e), if_pos p]
        · have k1 : ¬ kpB P f v j = true := by
            unfold kpB
            rw [p, decide_eq_false e]
            decide
          rw [if_neg k1, if_pos (show P j = true ∧ ¬ f j = v from ⟨p, e⟩), if_pos p]
      · have k1 : ¬ kpB P f v j = true := fun q => by
          unfold kpB at q
          rw [Bool.and_eq_true] at q
          exact p q.1
        rw [if_neg k1, if_neg (show ¬ (P j = true ∧ ¬ f j = v) from fun q => p q.1), if_neg p]
    | succ n ih =>
      show cn (fun i => if i < j + 1 then kpB P f v i else P i) (j + 1 + n) + (if (if j + 1 + n < j + 1 then kpB P f v (j + 1 + n) else P (j + 1 + n)) = true then 1 else 0) + _ = cn (fun i => if i < j then kpB P f v i else P i) (j + 1 + n) + (if (if j + 1 + n < j then kpB P f v (j + 1 + n) else P (j + 1 + n)) = true then 1 else 0)
      rw [if_neg (show ¬ j + 1 + n < j + 1 by omega), if_neg (show ¬ j + 1 + n < j by omega)]
      omega
  have := hi (M - (j + 1))
  rw [show j + 1 + (M - (j + 1)) = M from by omega] at this
  exact this
/-- the reference drops those that come to another number -/
theorem m_drop {h : hp} {s W G : Nat} {P : Nat → Bool} {v : Int64} {x1 said : Int32} {Q : hp → Prop} {X : Int32 × Int64 × Int32 × hp → Prop} (t : mAt h s) (a : mWld s h W G) (ok : okW W G) (fi : mFit h P ((G + 1) ^ W)) (hq : ∀ h1, eqE (fun a _ => a = 40) h h1 → mFit h1 (kpB P (wcF W G said.toInt64) v) ((G + 1) ^ W) → X (nI (cn (kpB P (wcF W G said.toInt64) v) ((G + 1) ^ W)), v, said, h1)) : w_X12_plays_109 Q X x1 (nI ((G + 1) ^ W)) v said (nI (cn P ((G + 1) ^ W))) 0 h := by
  obtain ⟨o1, o2, o3, o4⟩ := id ok
  have hM := pow_W (G := G) (j := W) o4 o2
  unfold w_X12_plays_109
  intro Y hY
  have wc : ∀ {i : Nat} {R : Int64 → Prop} {g : hp}, i < 2147483648 → eqE (fun a _ => a = 40) h g → R (wcF W G said.toInt64 i) → w_X12_worldComes g (nI i) said.toInt64 R := fun hi eg hr => by
    have eg := eqE_w (P' := mScr) (fun a j q => by unfold mScr; omega) eg
    exact m_worldComes (mAt_e eg t) (mWld_e eg a) ok hi hr
  generalize wcF W G said.toInt64 = f at hq wc
  generalize (G + 1) ^ W = M at hM fi hq hY
  have key : ∀ (n j : Nat) (g : hp), n + j = M → eqE (fun a _ => a = 40) h g → mFit g (fun i => if i < j then kpB P f v i else P i) M → Y (nI (cn (fun i => if i < j then kpB P f v i else P i) M), nI j, g) := by
    intro n
    induction n with
    | zero =>
      intro j g hj xg fg
      have ej : j = M := by omega
      subst ej
      apply hY
      refine ⟨fun _ => ?_, fun c => absurd (nI_le (Nat.le_refl _) (by omega)) c⟩
      have e : cn (fun i => if i < j then kpB P f v i else P i) j = cn (kpB P f v) j := cn_congr j (fun i hi => by
        show (if i < j then kpB P f v i else P i) = _
        rw [if_pos hi])
      show X (nI (cn (fun i => if i < j then kpB P f v i else P i) j), v, said, g)
      rw [e]
      refine hq g xg (fun i hi => ?_)
      have this : gI g 40 i = if (if i < j then kpB P f v i else P i) = true then 1 else 0 := fg i hi
      rw [if_pos hi] at this
      exact this
    | succ n ih =>
      intro j g hj xg fg
      have nxt := ih (j + 1)
      have dr := cn_drop (P := P) (f := f) (v := v) (show j < M by omega)
      have hcn := cn_le (fun i => if i < j then kpB P f v i else P i) M
      have in1 : vp_in (nI j) 10000 := in_n (by omega) (by omega)
      have f40 : gI g 40 j = if P j = true then 1 else 0 := by
        have this : gI g 40 j = if (if j < j then kpB P f v j else P j) = true then 1 else 0 := fg j (by omega)
        rw [if_neg (Nat.lt_irrefl j)] at this
        exact this
      -- nothing changes
      have same : kpB P f v j = P j → mFit g (fun i => if i < j + 1 then kpB P f v i else P i) M := fun e i hi => by
        have := fg i hi
        show gI g 40 i = if (if i < j + 1 then kpB P f v i else P i) = true then 1 else 0
        have this : gI g 40 i = if (if i < j then kpB P f v i else P i) = true then 1 else 0 := this
        rw [this]
        by_cases c : i < j
        · rw [if_pos c, if_pos (show i < j + 1 by omega)]
        · rw [if_neg c]
          by_cases c2 : i = j
          · subst c2
            rw [if_pos (Nat.lt_succ_self i), e]
          · rw [if_neg (show ¬ i < j + 1 by omega)]
      apply hY
      unfold w_X12_plays_b109
      rw [ix_n (n := j) (by omega), f40]
      refine ⟨fun c => absurd c (nI_ge (by omega) (by omega)), fun _ => ⟨in1, fun c u eu => ?_, fun c => wc (by omega) xg ⟨fun c2 => ⟨in1, fun h24 e24 y ey u eu => ?_⟩, fun c2 u eu => ?_⟩⟩⟩
      · have pj : ¬ P j = true := fun z => by rw [if_pos z] at c; exact absurd c (by decide)
        rw [← nI_succ] at eu
        subst eu
        rw [if_neg (fun q => pj q.1), Nat.add_zero] at dr
        have ek : kpB P f v j = P j := by
          unfold kpB
          cases hb : P j with
          | true => exact absurd hb pj
          | false => rfl
        have := nxt g (by omega) xg (same ek)
        rw [dr] at this
        exact this
      · have pj : P j = true := by
          by_cases z : P j = true
          · exact z
          · rw [if_neg z] at c; exact absurd rfl c
        have ey : y = nI (cn (fun i => if i < j then kpB P f v i else P i) M) + (-1) := ey
        rw [if_pos ⟨pj, c2⟩] at dr
        rw [← dr, m1, nI_pred] at ey
        rw [← nI_succ] at eu
        subst ey eu
        have e24 : h24 = sI g 40 j 0 := by rw [e24]; rfl
        refine nxt h24 (by omega) (by rw [e24]; exact eqE_sI xg rfl) (fun i hi => ?_)
        have kj : kpB P f v j = false := by
          unfold kpB
          rw [pj, decide_eq_false c2]
          rfl
        show gI h24 40 i = if (if i < j + 1 then kpB P f v i else P i) = true then 1 else 0
        rw [e24]
        by_cases cz : i = j
        · subst cz
          rw [gI_at, if_pos (Nat.lt_succ_self i), kj]
          rfl
        · rw [gI_k _ _ cz]
          have := fg i hi
          have this : gI g 40 i = if (if i < j then kpB P f v i else P i) = true then 1 else 0 := this
          rw [this]
          by_cases cl : i < j
          · rw [if_pos cl, if_pos (show i < j + 1 by omega)]
          · rw [if_neg cl, if_neg (show ¬ i < j + 1 by omega)]
      · have pj : P j = true := by
          by_cases z : P j = true
          · exact z
          · rw [if_neg z] at c; exact absurd rfl c
        rw [← nI_succ] at eu
        subst eu
        rw [if_neg (fun q => q.2 c2), Nat.add_zero] at dr
        have ek : kpB P f v j = P j := by
          unfold kpB
          rw [pj, decide_eq_true c2]
          rfl
        have := nxt g (by omega) xg (same ek)
        rw [dr] at this
        exact this
  have := key M 0 h (by omega) (eqE_refl h) (fun i hi => by
    have := fi i hi
    show gI h 40 i = if (if i < 0 then kpB P f v i else P i) = true then 1 else 0
    rw [if_neg (Nat.not_lt_zero i)]
    exact this)
  have e : cn (fun i => if i < 0 then kpB P f v i else P i) M = cn P M := cn_congr M (fun i hi => if_neg (by omega))
  rw [e] at this
  exact this
theorem m_game {h : hp} {s W G : Nat} {L : Lw} {w x : Int32} {Q : Int32 → hp → Prop} (t : mAt h s) (a : mWld s h W G) (ok : okW W G) (la : mAsk s h L) (wl : wfL L) (hq1 : ∀ h1, isGm ((G + 1) ^ W) w x → eqE mScr h h1 → Q (gmF L W G ((G + 1) ^ W) w.toInt.toNat x 50 (fun _ => true) 0 0 0) h1) (hq0 : ¬ isGm ((G + 1) ^ W) w x → Q (-1) h) : w_X12_game h w x Q := by
  obtain ⟨o1, o2, o3, o4⟩ := id ok
  have hM := pow_W (G := G) (j := W) o4 o2
  have hpos : 0 < (G + 1) ^ W := Nat.pow_pos (by omega)
  have z0 : (0 : Int64).toInt = 0 := rfl
  have i1 : (1 : Int32).toInt = 1 := rfl
  have eM := n_toInt (n := (G + 1) ^ W) (by omega)
  have eM1 : (nI ((G + 1) ^ W) - 1).toInt = (((G + 1) ^ W : Nat) : Int) - 1 := by rw [t_sub (by rw [eM, i1]; omega) (by rw [eM, i1]; omega), eM, i1]
  unfold w_X12_game w_X12_game_0
  refine m_worldAll t a ok (m_in (fun c => ⟨fun q => absurd q (by decide), fun _ => ?_⟩) (fun c => ⟨fun _ => hq0 (fun q => c ?_), fun q => absurd rfl q⟩))
  · rw [tL_int, tL_int, eM1, z0] at c
    refine m_in (fun c3 => ⟨fun _ => ?_, fun q => absurd q (by decide)⟩) (fun c3 => ⟨fun q => absurd rfl q, fun _ => hq0 (fun q => c3 (by rw [tL_int]; exact q.2))⟩)
    rw [tL_int] at c3
    have c3 : 0 ≤ x.toInt ∧ x.toInt ≤ 1 := c3
    have hq := fun h1 => hq1 h1 ⟨⟨by omega, by omega⟩, c3⟩
    obtain ⟨ew, hw⟩ := n_of (x := w) (by omega)
    have hwd : w.toInt.toNat < (G + 1) ^ W := by omega
    generalize w.toInt.toNat = wd at ew hw hwd hq
    have c := True.intro
    have hq1 := True.intro
    have hq0 := True.intro
    subst ew
    have hx01 : x = 0 ∨ x = 1 := by
      have e0 : (0 : Int32).toInt = 0 := rfl
      rcases Int.lt_or_le x.toInt 1 with q | q
      · exact Or.inl (t_eq.mpr (by rw [e0]; omega))
      · exact Or.inr (t_eq.mpr (by rw [i1]; omega))
    -- the end
    have fin : ∀ (P : Nat → Bool) (q : Nat) (fig : Int32) (g : hp), eqE mScr h g → gI g 0 65 = nI q → gI g 0 66 = fig → Q (gmE ((G + 1) ^ W) x P q fig) = Q (gmE ((G + 1) ^ W) x P q fig) → (∀ h1, eqE mScr h h1 → Q (gmE ((G + 1) ^ W) x P q fig) h1) → w_X12_plays_163 (fun h9 => (¬ x = 0 → Q (gI h9 0 66) h9) ∧ (x = 0 → Q (gI h9 0 65) h9)) (nI (cn P ((G + 1) ^ W))) g := by
      intro P q fig g xg g65 g66 _ hq
      have hcn := cn_le P ((G + 1) ^ W)
      unfold gmE at hq
      refine ⟨fun cz => ⟨fun cx => ?_, fun cx => ?_⟩, fun cz h29 e29 => ⟨fun cx => ?_, fun cx => ?_⟩⟩
      · have x1 : x = 1 := by
          rcases hx01 with z | z
          · exact absurd z cx
          · exact z
        have hq := hq g xg
        rw [if_pos x1] at hq
        rw [g66]; exact hq
      · have hq := hq g xg
        rw [if_neg (by rw [cx]; decide), if_pos ((nI_leI (b := 1) (by omega) (by omega)).mp cz)] at hq
        rw [g65]; exact hq
      · have x1 : x = 1 := by
          rcases hx01 with z | z
          · exact absurd z cx
          · exact z
        have hq := hq h29 (by rw [e29]; exact eqE_sI xg (by unfold mScr; omega))
        rw [if_pos x1] at hq
        rw [e29, gI_k _ _ (by decide), g66, ← e29]; exact hq
      · have hq := hq h29 (by rw [e29]; exact eqE_sI xg (by unfold mScr; omega))
        rw [if_neg (by rw [cx]; decide), if_neg (fun z => cz (nI_le (b := 1) z (by omega)))] at hq
        rw [e29, gI_at, ← e29]; exact hq
    unfold w_X12_plays w_X12_plays_0
    refine m_worldAll t a ok ?_
    unfold w_X12_plays_7
    intro Y hY
    -- the questions
    have quest : ∀ g : hp, eqE mScr h g → mFit g (fun _ => true) ((G + 1) ^ W) → gI g 0 65 = nI 0 → gI g 0 66 = 0 → w_X12_plays_43 (fun h9 => (¬ x = 0 → Q (gI h9 0 66) h9) ∧ (x = 0 → Q (gI h9 0 65) h9)) (nI wd) (nI ((G + 1) ^ W)) (nI ((G + 1) ^ W)) 0 0 g := by
      intro g xg fg g65 g66
      unfold w_X12_plays_43
      intro X hX
      have key : ∀ (n : Nat) (P : Nat → Bool) (fig said : Int32) (ans : Int64) (g : hp), n ≤ 50 → eqE mScr h g → mFit g P ((G + 1) ^ W) → gI g 0 65 = nI (50 - n) → gI g 0 66 = fig → (∀ h1, eqE mScr h h1 → Q (gmF L W G ((G + 1) ^ W) wd x n P fig said ans) h1) → X (nI (cn P ((G + 1) ^ W)), ans, said, g) := by
        intro n
        induction n with
        | zero =>
          intro P fig said ans g _ xg fg g65 g66 hq
          apply hX
          unfold w_X12_plays_b43
          rw [g65]
          exact ⟨fun _ => fin P 50 fig g xg g65 g66 rfl hq, fun _ => ⟨fun _ => fin P 50 fig g xg g65 g66 rfl hq, fun q => absurd (show (50 : Int32) ≤ nI 50 by decide) q⟩⟩
        | succ n ih =>
          intro P fig said ans g hn xg fg g65 g66 hq
          have hcn := cn_le P ((G + 1) ^ W)
          unfold gmF at hq
          apply hX
          unfold w_X12_plays_b43
          rw [g65]
          refine ⟨fun cz => ?_, fun cz => ⟨fun q => absurd q (nI_ge (b := 50) (by omega) (by omega)), fun _ => ?_⟩⟩
          · have cz := (nI_leI (b := 1) (by omega) (by omega)).mp cz
            refine fin P (50 - (n + 1)) fig g xg g65 g66 rfl (fun h1 e => ?_)
            have := hq h1 e
            rw [if_pos cz] at this
            exact this
          · have cz : ¬ cn P ((G + 1) ^ W) ≤ 1 := fun q => cz (nI_le (b := 1) q (by omega))
            have hq := fun h1 e => by have := hq h1 e; rw [if_neg cz] at this; exact this
            have e50 := n_toInt (n := 50 - (n + 1)) (by omega)
            refine m_asksAfter (mAt_e xg t) (mAsk_e xg la) wl (by rw [e50]; omega) (by rw [e50]; omega) (fun h10 x10 => ?_)
            have xa := x10
            have x010 := eqE_trans xg (eqE_w aScr_m x10)
            have f10 : mFit h10 P ((G + 1) ^ W) := fun i hi => by rw [eqE_I xa (by unfold tmScr; omega)]; exact fg i hi
            have g65' : gI h10 0 65 = nI (50 - (n + 1)) := by rw [eqE_I xa (by unfold tmScr; omega)]; exact g65
            have g66' : gI h10 0 66 = fig := by rw [eqE_I xa (by unfold tmScr; omega)]; exact g66
            generalize tellV L (vF (nI (50 - (n + 1))) ans said) = sd at hq
            show w_X12_worldComes h10 (nI wd) sd.toInt64 _
            refine m_worldComes (mAt_e x010 t) (mWld_e x010 a) ok hw (fun h14 e14 => m_figures (fun h17 e17 => ?_))
            rw [g65', ← nI_succ, show 50 - (n + 1) + 1 = 50 - n from by omega] at e14
            have g66'' : gI h14 0 66 = fig := by rw [e14, gI_k _ _ (by decide)]; exact g66'
            rw [g66''] at e17
            have x17 : eqE mScr h h17 := by rw [e17, e14]; exact eqE_sI (eqE_sI x010 (by unfold mScr; omega)) (by unfold mScr; omega)
            have f17 : mFit h17 P ((G + 1) ^ W) := fun i hi => by rw [e17, gI_o _ _ (by decide), e14, gI_o _ _ (by decide)]; exact f10 i hi
            refine m_drop (mAt_e x17 t) (mWld_e x17 a) ok f17 (fun h20 x20 f20 => ?_)
            have x020 := eqE_trans x17 (eqE_w (P' := mScr) (fun a j q => by unfold mScr; omega) x20)
            refine ih _ _ _ _ h20 (by omega) x020 f20 ?_ ?_ hq
            · rw [eqE_I x20 (by decide), e17, gI_k _ _ (by decide), e14]; exact gI_at _ _ _ _
            · rw [eqE_I x20 (by decide), e17]; exact gI_at _ _ _ _
      have := key 50 (fun _ => true) 0 0 0 g (Nat.le_refl _) xg fg g65 g66 hq
      rw [cn_all] at this
      exact this
    have key0 : ∀ (n j : Nat) (g : hp), n + j = (G + 1) ^ W → eqE mScr h g → (∀ i, i < j → gI g 40 i = 1) → Y (nI j, g) := by
      intro n
      induction n with
      | zero =>
        intro j g hj xg fg
        have ej : j = (G + 1) ^ W := by omega
        apply hY
        refine ⟨fun _ h4 e4 h5 e5 => ?_, fun q => absurd (by rw [ej]; exact nI_le (Nat.le_refl _) (by omega)) q⟩
        refine quest h5 ?_ (fun i hi => ?_) ?_ ?_
        · rw [e5, e4]; exact eqE_sI (eqE_sI xg (by unfold mScr; omega)) (by unfold mScr; omega)
        · rw [e5, gI_o _ _ (by decide), e4, gI_o _ _ (by decide)]; exact fg i (by omega)
        · rw [e5, gI_k _ _ (by decide), e4]; exact gI_at _ _ _ _
        · rw [e5]; exact gI_at _ _ _ _
      | succ n ih =>
        intro j g hj xg fg
        apply hY
        refine ⟨fun q => absurd q (nI_ge (by omega) (by omega)), fun _ => ⟨in_n (by omega) (by omega), fun h6 e6 u eu => ?_⟩⟩
        have e6 : h6 = sI g 40 (ix (nI j)) (jz 1) := e6
        have eu : u = nI j + 1 := eu
        rw [ix_n (by omega), show jz 1 = 1 from by decide] at e6
        rw [← nI_succ] at eu
        subst eu
        refine ih (j + 1) h6 (by omega) ?_ (fun i hi => ?_)
        · rw [e6]; exact eqE_sI xg (by unfold mScr; omega)
        · by_cases z : i = j
          · subst z
            rw [e6]; exact gI_at _ _ _ _
          · rw [e6, gI_k _ _ z]; exact fg i (by omega)
    exact key0 ((G + 1) ^ W) 0 h (by omega) (eqE_refl h) (fun i h => by omega)
  · rw [tL_int, tL_int, eM1, z0]
    have := q.1
    omega
