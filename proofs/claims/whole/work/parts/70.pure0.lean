/-! reads over writes -/
theorem gI_sI (h : hp) (o k : Nat) (v : Int32) (a j : Nat) : gI (sI h o k v) a j = if a = o ∧ j = k then v else gI h a j := rfl
theorem gL_sI (h : hp) (o k : Nat) (v : Int32) (a j : Nat) : gL (sI h o k v) a j = gL h a j := rfl
theorem gR_sI (h : hp) (o k : Nat) (v : Int32) (a : Nat) : gR (sI h o k v) a = gR h a := rfl
theorem gI_sL (h : hp) (o k : Nat) (v : Int64) (a j : Nat) : gI (sL h o k v) a j = gI h a j := rfl
theorem gL_sL (h : hp) (o k : Nat) (v : Int64) (a j : Nat) : gL (sL h o k v) a j = if a = o ∧ j = k then v else gL h a j := rfl
theorem gR_sL (h : hp) (o k : Nat) (v : Int64) (a : Nat) : gR (sL h o k v) a = gR h a := rfl
theorem gI_sR (h : hp) (i v : Nat) (a j : Nat) : gI (sR h i v) a j = gI h a j := rfl
theorem gL_sR (h : hp) (i v : Nat) (a j : Nat) : gL (sR h i v) a j = gL h a j := rfl
theorem gR_sR (h : hp) (i v : Nat) (a : Nat) : gR (sR h i v) a = if a = i then v else gR h a := rfl
theorem gI_at (h : hp) (o k : Nat) (v : Int32) : gI (sI h o k v) o k = v := if_pos ⟨rfl, rfl⟩
theorem gI_o (h : hp) {o k : Nat} (v : Int32) {a j : Nat} (n : a ≠ o) : gI (sI h o k v) a j = gI h a j := if_neg (fun z => n z.1)
theorem gI_k (h : hp) {o k : Nat} (v : Int32) {a j : Nat} (n : j ≠ k) : gI (sI h o k v) a j = gI h a j := if_neg (fun z => n z.2)
theorem gL_at (h : hp) (o k : Nat) (v : Int64) : gL (sL h o k v) o k = v := if_pos ⟨rfl, rfl⟩
theorem gL_o (h : hp) {o k : Nat} (v : Int64) {a j : Nat} (n : a ≠ o) : gL (sL h o k v) a j = gL h a j := if_neg (fun z => n z.1)
theorem gL_k (h : hp) {o k : Nat} (v : Int64) {a j : Nat} (n : j ≠ k) : gL (sL h o k v) a j = gL h a j := if_neg (fun z => n z.2)
/-! ints by their integers -/
theorem b_lo (x : Int32) : -2147483648 ≤ x.toInt := by have := x.le_toInt; omega
theorem b_hi (x : Int32) : x.toInt < 2147483648 := by have := x.toInt_lt; omega
theorem bm32 {z : Int} (h1 : -2147483648 ≤ z) (h2 : z < 2147483648) : z.bmod (2 ^ 32) = z := Int.bmod_eq_of_le (by omega) (by omega)
theorem t_add {x y : Int32} (h1 : -2147483648 ≤ x.toInt + y.toInt) (h2 : x.toInt + y.toInt < 2147483648) : (x + y).toInt = x.toInt + y.toInt := by rw [Int32.toInt_add, bm32 h1 h2]
theorem t_sub {x y : Int32} (h1 : -2147483648 ≤ x.toInt - y.toInt) (h2 : x.toInt - y.toInt < 2147483648) : (x - y).toInt = x.toInt - y.toInt := by rw [Int32.toInt_sub, bm32 h1 h2]
theorem t_mul {x y : Int32} (h1 : -2147483648 ≤ x.toInt * y.toInt) (h2 : x.toInt * y.toInt < 2147483648) : (x * y).toInt = x.toInt * y.toInt := by rw [Int32.toInt_mul, bm32 h1 h2]
theorem t_lt {x y : Int32} : x < y ↔ x.toInt < y.toInt := Int32.lt_iff_toInt_lt
theorem t_le {x y : Int32} : x ≤ y ↔ x.toInt ≤ y.toInt := Int32.le_iff_toInt_le
theorem t_eq {x y : Int32} : x = y ↔ x.toInt = y.toInt := Int32.toInt_inj.symm
theorem t_in {x : Int32} {n : Nat} : vp_in x n ↔ 0 ≤ x.toInt ∧ x.toInt < n := by
  unfold vp_in
  rw [t_lt, show (0 : Int32).toInt = 0 from rfl, show x.toNatClampNeg = x.toInt.toNat from rfl]
  omega
theorem t_ix {x : Int32} : ix x = x.toInt.toNat := rfl
theorem ix_n {n : Nat} (h : n < 2147483648) : ix (nI n) = n := nI_clamp (by omega)
theorem n_toInt {n : Nat} (h : n < 2147483648) : (nI n).toInt = n := nI_toInt (by omega)
theorem in_n {k n : Nat} (h : k < n) (hk : k < 2147483648) : vp_in (nI k) n := t_in.mpr ⟨by rw [n_toInt hk]; omega, by rw [n_toInt hk]; omega⟩
/-- an int that is not below 0 is a natural number -/
theorem n_of {x : Int32} (h : 0 ≤ x.toInt) : x = nI x.toInt.toNat ∧ x.toInt.toNat < 2147483648 := by
  have := b_hi x
  refine ⟨t_eq.mpr ?_, by omega⟩
  rw [n_toInt (by omega)]
  omega
/-! longs -/
theorem tL_int (x : Int32) : x.toInt64.toInt = x.toInt := Int32.toInt_toInt64 x
theorem tL_lt {x y : Int64} : x < y ↔ x.toInt < y.toInt := Int64.lt_iff_toInt_lt
theorem tL_le {x y : Int64} : x ≤ y ↔ x.toInt ≤ y.toInt := Int64.le_iff_toInt_le
theorem tL_eq {x y : Int64} : x = y ↔ x.toInt = y.toInt := Int64.toInt_inj.symm
/-! the tape -/
def sameByte (x : Int32) (k : Nat) : Prop := jb ((jushr x (nI k)).toInt8.toInt32) = jb ((jshr x (nI k)).toInt8.toInt32)
/-- the tape of a side: n bytes f, in cells d (int d k of the object is the length) -/
def aTape (d : Nat) (h : hp) (n : Nat) (f : Nat → Int32) : Prop := gI h 0 d = nI n ∧ n ≤ 2000 ∧ ∀ k, k < n → gI h 1 k = f k
def tape1 (d : Nat) (h : hp) (n : Nat) (v : Int32) : hp := sI (sI h 1 n v) 0 d (nI (n + 1))
def fApp (f : Nat → Int32) (n : Nat) (v : Int32) : Nat → Int32 := fun k => if k = n then v else f k
theorem aTape_1 {d : Nat} {h : hp} {n : Nat} {f : Nat → Int32} {v : Int32} (a : aTape d h n f) (hn : n < 2000) : aTape d (tape1 d h n v) (n + 1) (fApp f n v) := by
  refine ⟨gI_at _ _ _ _, hn, fun k hk => ?_⟩
  unfold tape1 fApp
  rw [gI_o _ _ (by decide), gI_sI]
  by_cases e : k = n
  · rw [if_pos ⟨rfl, e⟩, if_pos e]
  · rw [if_neg (fun z => e z.2), if_neg e]
    exact a.2.2 k (by omega)
def tape4 (d : Nat) (g : Int32 → Int32) (h : hp) (n : Nat) : hp := tape1 d (tape1 d (tape1 d (tape1 d h n (g 24)) (n + 1) (g 16)) (n + 2) (g 8)) (n + 3) (g 0)
def fApp4 (g : Int32 → Int32) (f : Nat → Int32) (n : Nat) : Nat → Int32 := fApp (fApp (fApp (fApp f n (g 24)) (n + 1) (g 16)) (n + 2) (g 8)) (n + 3) (g 0)
theorem aTape_4 {d : Nat} {h : hp} {n : Nat} {f g : _} (a : aTape d h n f) (hn : n + 4 ≤ 2000) : aTape d (tape4 d g h n) (n + 4) (fApp4 g f n) :=
  aTape_1 (aTape_1 (aTape_1 (aTape_1 a (by omega)) (by omega)) (by omega)) (by omega)
def gC (x s : Int32) : Int32 := jb ((jushr x s).toInt8.toInt32)
def gM (x s : Int32) : Int32 := jb ((jshr x s).toInt8.toInt32)
theorem putFour_1 {Q : hp → Prop} {x : Int32} {X : Int32 × hp → Prop} (hX : ∀ q, w_X11_putFour_b3 Q x X q.1 q.2 → X q) {s s' : Int32} {h : hp} {n : Nat} {f : Nat → Int32} (a : aTape 1 h n f) (hn : n < 2000) (hs : ¬ s < 0) (es : s + (-8) = s') (hq : X (s', tape1 1 h n (gC x s))) : X (s, h) := by
  apply hX
  unfold w_X11_putFour_b3
  refine ⟨fun z => absurd z hs, fun _ => ⟨fun z => absurd z ?_, fun _ => ⟨?_, ?_⟩⟩⟩
  · rw [show gI (s, h).2 0 1 = nI n from a.1]
    exact nI_ge (b := 2000) hn (by omega)
  · rw [show gI (s, h).2 0 1 = nI n from a.1]
    exact in_n hn (by omega)
  · intro h3 e3 h4 e4 s4 e5
    subst e3
    rw [show gI (s, h).2 0 1 = nI n from a.1, ix_n (by omega)] at e4
    rw [gI_o _ _ (by decide), show gI (s, h).2 0 1 = nI n from a.1, ← nI_succ] at e4
    subst e4
    rw [e5]
    show X (s + (-8), _)
    rw [es]
    exact hq
theorem putFour_ok {Q : hp → Prop} {x : Int32} {h : hp} {n : Nat} {f : Nat → Int32} (a : aTape 1 h n f) (hn : n + 4 ≤ 2000) (hq : Q (tape4 1 (gC x) h n)) : w_X11_putFour h x Q := by
  unfold w_X11_putFour w_X11_putFour_0 w_X11_putFour_3
  intro X hX
  have a1 := aTape_1 (v := gC x 24) a (by omega)
  have a2 := aTape_1 (v := gC x 16) a1 (by omega)
  have a3 := aTape_1 (v := gC x 8) a2 (by omega)
  refine putFour_1 hX a (by omega) (by decide) (s' := 16) (by decide) ?_
  refine putFour_1 hX a1 (by omega) (by decide) (s' := 8) (by decide) ?_
  refine putFour_1 hX a2 (by omega) (by decide) (s' := 0) (by decide) ?_
  refine putFour_1 hX a3 (by omega) (by decide) (s' := -8) (by decide) ?_
  apply hX
  exact ⟨fun _ => hq, fun z => absurd (show (-8 : Int32) < 0 by decide) z⟩
theorem put_1 {Q : hp → Prop} {x : Int32} {X : Int32 × hp → Prop} (hX : ∀ q, w_X12_put_b3 Q x X q.1 q.2 → X q) {s s' : Int32} {h : hp} {n : Nat} {f : Nat → Int32} (a : aTape 2 h n f) (hn : n < 2000) (hs : ¬ s < 0) (es : s + (-8) = s') (hq : X (s', tape1 2 h n (gM x s))) : X (s, h) := by
  apply hX
  unfold w_X12_put_b3
  refine ⟨fun z => absurd z hs, fun _ => ⟨?_, ?_⟩⟩
  · rw [show gI (s, h).2 0 2 = nI n from a.1]
    exact in_n hn (by omega)
  · intro h3 e3 h4 e4 s4 e5
    subst e3
    rw [show gI (s, h).2 0 2 = nI n from a.1, ix_n (by omega)] at e4
    rw [gI_o _ _ (by decide), show gI (s, h).2 0 2 = nI n from a.1, ← nI_succ] at e4
    subst e4
    rw [e5]
    show X (s + (-8), _)
    rw [es]
    exact hq
theorem put_ok {Q : hp → Prop} {x : Int32} {h : hp} {n : Nat} {f : Nat → Int32} (a : aTape 2 h n f) (hn : n + 4 ≤ 2000) (hq : Q (tape4 2 (gM x) h n)) : w_X12_put h x Q := by
  unfold w_X12_put w_X12_put_0 w_X12_put_3
  intro X hX
  have a1 := aTape_1 (v := gM x 24) a (by omega)
  have a2 := aTape_1 (v := gM x 16) a1 (by omega)
  have a3 := aTape_1 (v := gM x 8) a2 (by omega)
  refine put_1 hX a (by omega) (by decide) (s' := 16) (by decide) ?_
  refine put_1 hX a1 (by omega) (by decide) (s' := 8) (by decide) ?_
  refine put_1 hX a2 (by omega) (by decide) (s' := 0) (by decide) ?_
  refine put_1 hX a3 (by omega) (by decide) (s' := -8) (by decide) ?_
  apply hX
  exact ⟨fun _ => hq, fun z => absurd (show (-8 : Int32) < 0 by decide) z⟩
