/-! longs by their integers -/
theorem tL_lo (x : Int64) : -9223372036854775808 ≤ x.toInt := by have := x.le_toInt; omega
theorem tL_hi (x : Int64) : x.toInt < 9223372036854775808 := by have := x.toInt_lt; omega
theorem tL_add {x y : Int64} (h1 : -9223372036854775808 ≤ x.toInt + y.toInt) (h2 : x.toInt + y.toInt < 9223372036854775808) : (x + y).toInt = x.toInt + y.toInt := by rw [Int64.toInt_add, bm64 h1 h2]
theorem tL_sub {x y : Int64} (h1 : -9223372036854775808 ≤ x.toInt - y.toInt) (h2 : x.toInt - y.toInt < 9223372036854775808) : (x - y).toInt = x.toInt - y.toInt := by rw [Int64.toInt_sub, bm64 h1 h2]
theorem tL_mul {x y : Int64} (h1 : -9223372036854775808 ≤ x.toInt * y.toInt) (h2 : x.toInt * y.toInt < 9223372036854775808) : (x * y).toInt = x.toInt * y.toInt := by rw [Int64.toInt_mul, bm64 h1 h2]
theorem tL_neg {x : Int64} (h : -9223372036854775808 < x.toInt) : (-x).toInt = -x.toInt := by
  have := tL_hi x
  rw [Int64.toInt_neg, bm64 (by omega) (by omega)]
theorem tL_d10 (x : Int64) : (0 ≤ x.toInt → (x / 10).toInt = x.toInt / 10) ∧ (x.toInt < 0 → (x / 10).toInt = -((-x.toInt) / 10)) := by
  have h1 := tL_lo x
  have h2 := tL_hi x
  have e : (x / 10).toInt = (x.toInt.tdiv 10).bmod (2 ^ 64) := Int64.toInt_div x 10
  refine ⟨fun h => ?_, fun h => ?_⟩
  · rw [e, Int.tdiv_eq_ediv_of_nonneg h, bm64 (by omega) (by omega)]
  · have e2 : x.toInt.tdiv 10 = -((-x.toInt) / 10) := by
      have := Int.neg_tdiv (a := -x.toInt) (b := 10)
      rw [Int.neg_neg] at this
      rw [this, Int.tdiv_eq_ediv_of_nonneg (by omega)]
    rw [e, e2, bm64 (by omega) (by omega)]
theorem tL_abs10 (x : Int64) : (x / 10).toInt.natAbs = x.toInt.natAbs / 10 := by
  rcases Int.lt_or_le x.toInt 0 with h | h
  · rw [(tL_d10 x).2 h]; omega
  · rw [(tL_d10 x).1 h]; omega
/-! figures -/
def nfF : Nat → Nat → Nat
  | 0, _ => 0
  | f + 1, m => if m = 0 then 0 else nfF f (m / 10) + 1
theorem nfF_le : ∀ f m : Nat, nfF f m ≤ f
  | 0, _ => Nat.le_refl 0
  | f + 1, m => by
    unfold nfF
    split
    · omega
    · have := nfF_le f (m / 10); omega
def figV (x : Int64) : Nat := (if x.toInt < 0 then 2 else 1) + nfF 20 (x.toInt.natAbs / 10)
theorem c_figLoop {Q : Int32 → Prop} {X : Int32 × Int64 → Prop} (hX : ∀ t, w_X11_figuresOf_b21 Q X t.1 t.2 → X t) : ∀ (f c : Nat) (x : Int64), 0 ≤ x.toInt → x.toInt.natAbs < 10 ^ f → Q (nI (c + nfF f x.toInt.natAbs)) → X (nI c, x) := by
  have h0 : (0 : Int64).toInt = 0 := rfl
  intro f
  induction f with
  | zero =>
    intro c x hx hlt hq
    apply hX
    refine ⟨fun _ => hq, fun c9 => absurd ?_ c9⟩
    show x ≤ 0
    rw [tL_le, h0]
    simp at hlt
    omega
  | succ f ih =>
    intro c x hx hlt hq
    apply hX
    unfold nfF at hq
    refine ⟨fun c9 => ?_, fun c9 y ey z ez => ?_⟩
    · have c9 : x ≤ 0 := c9
      rw [tL_le, h0] at c9
      rw [if_pos (by omega)] at hq
      exact hq
    · have c9 : ¬ x ≤ 0 := c9
      rw [tL_le, h0] at c9
      rw [if_neg (by omega)] at hq
      have ey : y = nI c + 1 := ey
      have ez : z = x / 10 := ez
      rw [← nI_succ] at ey
      subst ey ez
      refine ih (c + 1) (x / 10) ?_ ?_ ?_
      · rw [(tL_d10 x).1 hx]; omega
      · rw [tL_abs10]
        rw [Nat.pow_succ] at hlt
        omega
      · rw [tL_abs10, show c + 1 + nfF f (x.toInt.natAbs / 10) = c + (nfF f (x.toInt.natAbs / 10) + 1) from by omega]
        exact hq
theorem m_figLoop {Q : Int32 → Prop} {X : Int32 × Int64 → Prop} (hX : ∀ t, w_X12_figures_b18 Q X t.1 t.2 → X t) : ∀ (f c : Nat) (x : Int64), x.toInt.natAbs < 10 ^ f → Q (nI (c + nfF f x.toInt.natAbs)) → X (nI c, x) := by
  have h0 : (0 : Int64).toInt = 0 := rfl
  intro f
  induction f with
  | zero =>
    intro c x hlt hq
    apply hX
    refine ⟨fun _ => hq, fun c9 => absurd ?_ c9⟩
    show x = 0
    rw [tL_eq, h0]
    simp at hlt
    exact hlt
  | succ f ih =>
    intro c x hlt hq
    apply hX
    unfold nfF at hq
    refine ⟨fun c9 => ?_, fun c9 y ey z ez => ?_⟩
    · have c9 : x = 0 := c9
      rw [tL_eq, h0] at c9
      rw [if_pos (by omega)] at hq
      exact hq
    · have c9 : ¬ x = 0 := c9
      rw [tL_eq, h0] at c9
      rw [if_neg (by omega)] at hq
      have ey : y = nI c + 1 := ey
      have ez : z = x / 10 := ez
      rw [← nI_succ] at ey
      subst ey ez
      refine ih (c + 1) (x / 10) ?_ ?_
      · rw [tL_abs10]
        rw [Nat.pow_succ] at hlt
        omega
      · rw [tL_abs10, show c + 1 + nfF f (x.toInt.natAbs / 10) = c + (nfF f (x.toInt.natAbs / 10) + 1) from by omega]
        exact hq
theorem abs_lt (x : Int64) : x.toInt.natAbs / 10 < 10 ^ 20 := by
  have h1 := tL_lo x
  have h2 := tL_hi x
  have : (10 : Nat) ^ 20 = 100000000000000000000 := by decide
  omega
theorem c_figures {x : Int64} {Q : Int32 → Prop} (hx : -9223372036854775808 < x.toInt) (hq : Q (nI (figV x))) : w_X11_figuresOf x Q := by
  have h0 : (0 : Int64).toInt = 0 := rfl
  unfold w_X11_figuresOf w_X11_figuresOf_0
  unfold figV at hq
  have key : ∀ c : Nat, Q (nI (c + nfF 20 (x.toInt.natAbs / 10))) → w_X11_figuresOf_11 Q x (nI c) := by
    intro c hq
    unfold w_X11_figuresOf_11
    intro y ey
    have hy : (if 0 < x then x else -x).toInt = x.toInt.natAbs := by
      by_cases c1 : 0 < x
      · rw [if_pos c1]; rw [tL_lt, h0] at c1; omega
      · rw [if_neg c1, tL_neg hx]; rw [tL_lt, h0] at c1; omega
    unfold w_X11_figuresOf_21
    intro X hX
    subst ey
    have hz := (tL_d10 (if 0 < x then x else -x)).1 (by rw [hy]; omega)
    rw [hy] at hz
    have e : ((if 0 < x then x else -x) / 10).toInt.natAbs = x.toInt.natAbs / 10 := by rw [hz]; omega
    refine c_figLoop hX 20 c _ (by rw [hz]; omega) (by rw [e]; exact abs_lt x) ?_
    rw [e]
    exact hq
  refine ⟨fun c => ?_, fun c => ?_⟩
  · rw [tL_le, h0] at c
    rw [if_neg (by omega)] at hq
    exact key 1 hq
  · rw [tL_le, h0] at c
    rw [if_pos (by omega)] at hq
    exact key 2 hq
theorem m_figures {x : Int64} {Q : Int32 → Prop} (hq : Q (nI (figV x))) : w_X12_figures x Q := by
  have h0 : (0 : Int64).toInt = 0 := rfl
  unfold w_X12_figures w_X12_figures_0
  unfold figV at hq
  have key : ∀ c : Nat, Q (nI (c + nfF 20 (x.toInt.natAbs / 10))) → w_X12_figures_11 Q x (nI c) := by
    intro c hq
    unfold w_X12_figures_11
    intro y ey
    unfold w_X12_figures_18
    intro X hX
    subst ey
    refine m_figLoop hX 20 c _ (by rw [tL_abs10]; exact abs_lt x) ?_
    rw [tL_abs10]
    exact hq
  refine ⟨fun c => ?_, fun c => ?_⟩
  · rw [tL_le, h0] at c
    rw [if_neg (by omega)] at hq
    exact key 1 hq
  · rw [tL_le, h0] at c
    rw [if_pos (by omega)] at hq
    exact key 2 hq
/-! meets -/
def mtF (f g : Nat → Int64) : Nat → Int32
  | 0 => -2
  | n + 1 => if f (999 - n) = g (999 - n) then nI (999 - n) else mtF f g n
def isT (R : Nat) (x y : Int32) : Prop := isR R x ∧ isR R y ∧ ¬ x = y
def meetsV (R : Nat) (S : Nat → Nat) (N : Nat → Nat → Int32) (x y : Int32) : Int32 := if isR R x ∧ isR R y ∧ ¬ x = y then mtF (fun b => comesV R S N x.toInt.toNat (nI b).toInt64) (fun b => comesV R S N y.toInt.toNat (nI b).toInt64) 1000 else -1
theorem c_areTwo {h : hp} {o R : Nat} {S : Nat → Nat} {N : Nat → Nat → Int32} {x y : Int32} {Q : Int32 → Prop} (t : cAt h o) (a : cRows o h R S N) (ok : okRows R S N) (hq1 : isR R x ∧ isR R y ∧ ¬ x = y → Q 1) (hq0 : ¬ (isR R x ∧ isR R y ∧ ¬ x = y) → Q 0) : w_X11_areTwoRows h x y Q := by
  unfold w_X11_areTwoRows w_X11_areTwoRows_0
  refine c_isRow t a ok (fun z => ⟨fun c => absurd c (by decide), fun _ => ?_⟩) (fun z => ⟨fun _ => hq0 (fun q => z q.1), fun c => absurd rfl c⟩)
  refine c_isRow t a ok (fun z2 => ⟨fun c => absurd c (by decide), fun _ => ?_⟩) (fun z => ⟨fun _ => hq0 (fun q => z q.2.1), fun c => absurd rfl c⟩)
  exact ⟨fun e => hq0 (fun q => q.2.2 e), fun e => hq1 ⟨z, z2, e⟩⟩
theorem c_meets {h : hp} {o R : Nat} {S : Nat → Nat} {N : Nat → Nat → Int32} {x y : Int32} {Q : Int32 → Prop} (t : cAt h o) (a : cRows o h R S N) (ok : okRows R S N) (hq : Q (meetsV R S N x y)) : w_X11_meets h x y Q := by
  unfold w_X11_meets w_X11_meets_0
  unfold meetsV at hq
  refine c_areTwo t a ok (fun z => ⟨fun _ => ?_, fun c => absurd c (by decide)⟩) (fun z => ⟨fun c => absurd rfl c, fun _ => ?_⟩)
  · rw [if_pos z] at hq
    obtain ⟨r, hr, rfl, er⟩ := isR_n z.1
    obtain ⟨q, hq', rfl, eq⟩ := isR_n z.2.1
    rw [er, eq] at hq
    unfold w_X11_meets_13
    intro X hX
    have key : ∀ n : Nat, n ≤ 1000 → Q (mtF (fun b => comesV R S N r (nI b).toInt64) (fun b => comesV R S N q (nI b).toInt64) n) → X (nI (1000 - n)) := by
      intro n
      induction n with
      | zero =>
        intro _ hq
        apply hX
        exact ⟨fun _ => hq, fun c => absurd (show (999 : Int32) < nI 1000 by decide) c⟩
      | succ n ih =>
        intro hn hq
        unfold mtF at hq
        rw [show 1000 - (n + 1) = 999 - n from by omega]
        apply hX
        refine ⟨fun c => absurd c (nI_nlt (b := 999 - n) (a := 999) (by omega) (by omega)), fun _ => ⟨by rw [t.1]; exact t.2, ?_⟩⟩
        rw [t.1]
        refine c_comesTo a ok hr ⟨t.2, c_comesTo a ok hq' ⟨fun c x ex => ?_, fun c => ?_⟩⟩
        · rw [if_neg c] at hq
          rw [← nI_succ, show 999 - n + 1 = 1000 - n from by omega] at ex
          subst ex
          exact ih (by omega) hq
        · rw [if_pos c] at hq
          exact hq
    exact key 1000 (Nat.le_refl _) hq
  · rw [if_neg z] at hq
    exact hq
theorem m_meets {h : hp} {s R : Nat} {S : Nat → Nat} {N : Nat → Nat → Int32} {x y : Int32} {Q : Int32 → Prop} (t : mAt h s) (a : mRows s h R S N) (ok : okRows R S N) (hq : Q (meetsV R S N x y)) : w_X12_meets h x y Q := by
  unfold w_X12_meets w_X12_meets_0
  unfold meetsV at hq
  refine m_isRow t a ok (fun z => ⟨fun c => absurd c (by decide), fun _ => ?_⟩) (fun z => ⟨fun _ => ?_, fun c => absurd rfl c⟩)
  · refine m_isRow t a ok (fun z2 => ⟨fun c => absurd c (by decide), fun _ => ⟨fun ne => ?_, fun e => ?_⟩⟩) (fun z => ⟨fun _ => ?_, fun c => absurd rfl c⟩)
    · rw [if_pos ⟨z, z2, ne⟩] at hq
      obtain ⟨r, hr, rfl, er⟩ := isR_n z
      obtain ⟨q, hq', rfl, eq⟩ := isR_n z2
      rw [er, eq] at hq
      unfold w_X12_meets_25
      intro X hX
      have key : ∀ n : Nat, n ≤ 1000 → Q (mtF (fun b => comesV R S N r (nI b).toInt64) (fun b => comesV R S N q (nI b).toInt64) n) → X (nI (1000 - n)) := by
        intro n
        induction n with
        | zero =>
          intro _ hq
          apply hX
          exact ⟨fun _ => hq, fun c => absurd (show (1000 : Int32) ≤ nI 1000 by decide) c⟩
        | succ n ih =>
          intro hn hq
          unfold mtF at hq
          rw [show 1000 - (n + 1) = 999 - n from by omega]
          apply hX
          refine ⟨fun c => absurd c (nI_ge (a := 999 - n) (b := 1000) (by omega) (by omega)), fun _ => ?_⟩
          refine m_comesBy t a ok hr (m_comesBy t a ok hq' ⟨fun c x ex => ?_, fun c => ?_⟩)
          · rw [if_neg c] at hq
            rw [← nI_succ, show 999 - n + 1 = 1000 - n from by omega] at ex
            subst ex
            exact ih (by omega) hq
          · rw [if_pos c] at hq
            exact hq
      exact key 1000 (Nat.le_refl _) hq
    · rw [if_neg (fun q => q.2.2 e)] at hq
      exact hq
    · rw [if_neg (fun q => z q.2.1)] at hq
      exact hq
  · rw [if_neg (fun q => z q.1)] at hq
    exact hq
