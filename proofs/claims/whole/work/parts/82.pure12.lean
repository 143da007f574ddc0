/-! cost -/
def coF (A : Nat → Int32) (K : Nat) : Nat → Int32 → Int32
  | 0, acc => acc
  | n + 1, acc => coF A K n (acc + nI (figV (A (K - (n + 1))).toInt64))
theorem c_cost {h : hp} {D : Nat} {A : Nat → Int32} {B : Nat → Int64} {x : Int32} {Q : Int32 → Prop} (a : cTold 51 h D A B) (hD : D ≤ 20) (hq1 : isK D x → Q (coF A x.toInt.toNat x.toInt.toNat 0)) (hq0 : ¬ isK D x → Q (-1)) : w_X11_cost h x Q := by
  unfold w_X11_cost w_X11_cost_0
  have eD := n_toInt (n := D) (by omega)
  refine c_within (fun c => ⟨fun _ => ?_, fun q => absurd q (by decide)⟩) (fun c => ⟨fun q => absurd rfl q, fun _ => hq0 (fun q => c ?_)⟩)
  · rw [tL_int, tL_int, a.1, eD] at c
    have c : 0 ≤ x.toInt ∧ x.toInt ≤ (D : Int) := c
    have hq := hq1 c
    obtain ⟨ex, hx⟩ := n_of c.1
    have hK : x.toInt.toNat ≤ D := by omega
    generalize x.toInt.toNat = K at ex hx hq hK
    subst ex
    unfold w_X11_cost_23
    intro X hX
    have key : ∀ (n : Nat) (acc : Int32), n ≤ K → Q (coF A K n acc) → X (acc, nI (K - n)) := by
      intro n
      induction n with
      | zero =>
        intro acc _ hq
        apply hX
        exact ⟨fun _ => hq, fun c => absurd (nI_le (Nat.le_refl _) (by omega)) c⟩
      | succ n ih =>
        intro acc hn hq
        apply hX
        refine ⟨fun c => absurd c (nI_ge (by omega) (by omega)), fun _ => ⟨in_n (by omega) (by omega), ?_⟩⟩
        show w_X11_figuresOf (gI h 52 (ix (nI (K - (n + 1))))).toInt64 _
        rw [ix_n (by omega), (a.2 (K - (n + 1)) (by omega)).1]
        refine c_figures (by rw [tL_int]; have := b_lo (A (K - (n + 1))); omega) ?_
        intro y ey z ez
        have ez : z = nI (K - (n + 1)) + 1 := ez
        rw [← nI_succ, show K - (n + 1) + 1 = K - n from by omega] at ez
        subst ey ez
        exact ih _ (by omega) hq
    have := key K 0 (Nat.le_refl _) hq
    rw [Nat.sub_self] at this
    exact this
  · rw [tL_int, tL_int, a.1, eD]; exact q
theorem m_cost {h : hp} {D : Nat} {A : Nat → Int32} {B : Nat → Int64} {x : Int32} {Q : Int32 → Prop} (a : mTold h D A B) (hD : D ≤ 20) (hq1 : isK D x → Q (coF A x.toInt.toNat x.toInt.toNat 0)) (hq0 : ¬ isK D x → Q (-1)) : w_X12_cost h x Q := by
  unfold w_X12_cost w_X12_cost_0
  have eD := n_toInt (n := D) (by omega)
  refine m_in (fun c => ⟨fun _ => ?_, fun q => absurd q (by decide)⟩) (fun c => ⟨fun q => absurd rfl q, fun _ => hq0 (fun q => c ?_)⟩)
  · rw [tL_int, tL_int, a.1, eD] at c
    have c : 0 ≤ x.toInt ∧ x.toInt ≤ (D : Int) := c
    have hq := hq1 c
    obtain ⟨ex, hx⟩ := n_of c.1
    have hK : x.toInt.toNat ≤ D := by omega
    generalize x.toInt.toNat = K at ex hx hq hK
    subst ex
    unfold w_X12_cost_20
    intro X hX
    have key : ∀ (n : Nat) (acc : Int32), n ≤ K → Q (coF A K n acc) → X (acc, nI (K - n)) := by
      intro n
      induction n with
      | zero =>
        intro acc _ hq
        apply hX
        exact ⟨fun _ => hq, fun c => absurd (nI_le (Nat.le_refl _) (by omega)) c⟩
      | succ n ih =>
        intro acc hn hq
        apply hX
        refine ⟨fun c => absurd c (nI_ge (by omega) (by omega)), fun _ => ⟨in_n (by omega) (by omega), ?_⟩⟩
        show w_X12_figures (gI h 38 (ix (nI (K - (n + 1))))).toInt64 _
        rw [ix_n (by omega), (a.2 (K - (n + 1)) (by omega)).1]
        refine m_figures ?_
        intro y ey z ez
        have ez : z = nI (K - (n + 1)) + 1 := ez
        rw [← nI_succ, show K - (n + 1) + 1 = K - n from by omega] at ez
        subst ey ez
        exact ih _ (by omega) hq
    have := key K 0 (Nat.le_refl _) hq
    rw [Nat.sub_self] at this
    exact this
  · rw [tL_int, tL_int, a.1, eD]; exact q
/-! worlds: W places, each 0 .. G -/
def okW (W G : Nat) : Prop := 1 ≤ W ∧ W ≤ 4 ∧ 1 ≤ G ∧ G ≤ 9
def cWld (h : hp) (W G : Nat) : Prop := gI h 64 0 = nI W ∧ gI h 64 1 = nI ((G + 1) ^ W) ∧ gI h 64 2 = nI G
def mWld (s : Nat) (h : hp) (W G : Nat) : Prop := gI h 19 s = nI W ∧ gI h 20 s = nI G
theorem pow_W {G j : Nat} (hG : G ≤ 9) (hj : j ≤ 4) : (G + 1) ^ j ≤ 10000 :=
  Nat.le_trans (Nat.pow_le_pow_left (by omega) j) (Nat.le_trans (Nat.pow_le_pow_right (n := 10) (by omega) hj) (by decide))
theorem nI_div {a b : Nat} (ha : a < 2147483648) (hb : 0 < b) (hb2 : b < 2147483648) : nI a / nI b = nI (a / b) := t_eq.mpr (by
  have e1 := n_toInt ha
  have e2 := n_toInt hb2
  have h1 : a / b ≤ a := Nat.div_le_self a b
  rw [(t_div (x := nI a) (y := nI b) (by rw [e2]; omega)).1 (by rw [e1]; omega), e1, e2, n_toInt (by omega)]
  rfl)
theorem nI_rem {a b : Nat} (ha : a < 2147483648) (hb : 0 < b) (hb2 : b < 2147483648) : jrem (nI a) (nI b) = nI (a % b) := t_eq.mpr (by
  have e1 := n_toInt ha
  have e2 := n_toInt hb2
  have h1 : a % b < b := Nat.mod_lt a hb
  rw [(j_rem (x := nI a) (y := nI b) (by rw [e2]; omega)).1 (by rw [e1]; omega), e1, e2, n_toInt (by omega)]
  rfl)
theorem nI_mul {a b : Nat} (h : a * b < 2147483648) (ha : a < 2147483648) (hb : b < 2147483648) : nI a * nI b = nI (a * b) := t_eq.mpr (by
  have e1 := n_toInt ha
  have e2 := n_toInt hb
  have e : (nI a).toInt * (nI b).toInt = ((a * b : Nat) : Int) := by rw [e1, e2]; rfl
  rw [t_mul (by rw [e]; omega) (by rw [e]; omega), e, n_toInt h])
/-- the number of world i at place k -/
def figW (G i k : Nat) : Nat := i / (G + 1) ^ k % (G + 1)
theorem c_numW {h : hp} {W G i k : Nat} {Q : Int32 → Prop} (a : cWld h W G) (ok : okW W G) (hi : i < 2147483648) (hk : k < 2147483648) (hq : Q (nI (figW G i k))) : w_X10_numberAt h (nI i) (nI k) Q := by
  unfold w_X10_numberAt w_X10_numberAt_0
  obtain ⟨o1, o2, o3, o4⟩ := ok
  intro x4 e4
  have e : x4 = nI (G + 1) := by
    rw [e4, a.2.2, ← nI_succ]
    exact if_neg (nI_nlt (a := G + 1) (b := 2) (by omega) (by omega))
  subst e
  clear e4
  unfold w_X10_numberAt_17
  intro X hX
  have key : ∀ n j : Nat, n + j = k → X (nI (i / (G + 1) ^ j), nI j) := by
    intro n
    induction n with
    | zero =>
      intro j hj
      have ej : j = k := by omega
      subst ej
      apply hX
      refine ⟨fun _ => ⟨nI_ne0 (by omega) (by omega), ?_⟩, fun c => absurd (nI_le (Nat.le_refl _) (by omega)) c⟩
      have hle : i / (G + 1) ^ j ≤ i := Nat.div_le_self _ _
      show Q (jrem (nI (i / (G + 1) ^ j)) (nI (G + 1)))
      rw [nI_rem (by omega) (by omega) (by omega)]
      exact hq
    | succ n ih =>
      intro j hj
      apply hX
      have hle : i / (G + 1) ^ j ≤ i := Nat.div_le_self _ _
      refine ⟨fun c => absurd c (nI_ge (by omega) (by omega)), fun _ => ⟨nI_ne0 (by omega) (by omega), fun y ey z ez => ?_⟩⟩
      have ey : y = nI (i / (G + 1) ^ j) / nI (G + 1) := ey
      have ez : z = nI j + 1 := ez
      rw [nI_div (by omega) (by omega) (by omega), Nat.div_div_eq_div_mul, ← Nat.pow_succ] at ey
      rw [← nI_succ] at ez
      subst ey ez
      exact ih (j + 1) (by omega)
  have := key k 0 rfl
  rw [Nat.pow_zero, Nat.div_one] at this
  exact this
theorem m_figureOf {h : hp} {s W G i k : Nat} {Q : Int32 → Prop} (t : mAt h s) (a : mWld s h W G) (ok : okW W G) (hi : i < 2147483648) (hk : k < 2147483648) (hq : Q (nI (figW G i k))) : w_X12_figureOf h (nI i) (nI k) Q := by
  unfold w_X12_figureOf w_X12_figureOf_0 w_X12_figureOf_5
  obtain ⟨o1, o2, o3, o4⟩ := ok
  have hs := t.2
  intro X hX
  have eG : gI h 20 (ix (gI h 0 18)) + 1 = nI (G + 1) := by rw [t.1, ix_n (by omega), a.2, ← nI_succ]
  have key : ∀ n j : Nat, n + j = k → X (nI (i / (G + 1) ^ j), nI j) := by
    intro n
    induction n with
    | zero =>
      intro j hj
      have ej : j = k := by omega
      subst ej
      apply hX
      unfold w_X12_figureOf_b5
      rw [eG]
      refine ⟨fun _ => ⟨by rw [t.1]; exact in_n hs (by omega), nI_ne0 (by omega) (by omega), ?_⟩, fun c => absurd (nI_le (Nat.le_refl _) (by omega)) c⟩
      have hle : i / (G + 1) ^ j ≤ i := Nat.div_le_self _ _
      show Q (jrem (nI (i / (G + 1) ^ j)) (nI (G + 1)))
      rw [nI_rem (by omega) (by omega) (by omega)]
      exact hq
    | succ n ih =>
      intro j hj
      apply hX
      have hle : i / (G + 1) ^ j ≤ i := Nat.div_le_self _ _
      unfold w_X12_figureOf_b5
      rw [eG]
      refine ⟨fun c => absurd c (nI_ge (by omega) (by omega)), fun _ => ⟨by rw [t.1]; exact in_n hs (by omega), nI_ne0 (by omega) (by omega), fun y ey z ez => ?_⟩⟩
      have ey : y = nI (i / (G + 1) ^ j) / nI (G + 1) := ey
      have ez : z = nI j + 1 := ez
      rw [nI_div (by omega) (by omega) (by omega), Nat.div_div_eq_div_mul, ← Nat.pow_succ] at ey
      rw [← nI_succ] at ez
      subst ey ez
      exact ih (j + 1) (by omega)
  have := key k 0 rfl
  rw [Nat.pow_zero, Nat.div_one] at this
  exact this
theorem m_worldAll {h : hp} {s W G : Nat} {Q : Int32 → Prop} (t : mAt h s) (a : mWld s h W G) (ok : okW W G) (hq : Q (nI ((G + 1) ^ W))) : w_X12_worldAll h Q := by
  unfold w_X12_worldAll w_X12_worldAll_0 w_X12_worldAll_4
  obtain ⟨o1, o2, o3, o4⟩ := ok
  have hs := t.2
  have eG : gI h 20 (ix (gI h 0 18)) + 1 = nI (G + 1) := by rw [t.1, ix_n (by omega), a.2, ← nI_succ]
  have eW : gI h 19 (ix (gI h 0 18)) = nI W := by rw [t.1, ix_n (by omega), a.1]
  have hin : vp_in (gI h 0 18) 2 := by rw [t.1]; exact in_n hs (by omega)
  intro X hX
  have key : ∀ n j : Nat, n + j = W → X (nI ((G + 1) ^ j), nI j) := by
    intro n
    induction n with
    | zero =>
      intro j hj
      have ej : j = W := by omega
      subst ej
      apply hX
      unfold w_X12_worldAll_b4
      rw [eW]
      exact ⟨hin, fun _ => hq, fun c => absurd (nI_le (Nat.le_refl _) (by omega)) c⟩
    | succ n ih =>
      intro j hj
      apply hX
      unfold w_X12_worldAll_b4
      rw [eW, eG]
      have p1 := pow_W (G := G) (j := j) o4 (by omega)
      have p2 := pow_W (G := G) (j := j + 1) o4 (by omega)
      rw [Nat.pow_succ] at p2
      refine ⟨hin, fun c => absurd c (nI_ge (by omega) (by omega)), fun _ => ⟨hin, fun y ey z ez => ?_⟩⟩
      have ey : y = nI ((G + 1) ^ j) * nI (G + 1) := ey
      have ez : z = nI j + 1 := ez
      rw [nI_mul (by omega) (by omega) (by omega), ← Nat.pow_succ] at ey
      rw [← nI_succ] at ez
      subst ey ez
      exact ih (j + 1) (by omega)
  exact key W 0 rfl
/-! world -/
def isI (W G : Nat) (x k : Int32) : Prop := (0 ≤ x.toInt ∧ x.toInt < ((G + 1) ^ W : Nat)) ∧ (0 ≤ k.toInt ∧ k.toInt < (W : Int))
theorem c_world {h : hp} {W G : Nat} {x k : Int32} {Q : Int32 → Prop} (a : cWld h W G) (ok : okW W G) (hq1 : k = -1 → Q (nI ((G + 1) ^ W))) (hq2 : ¬ k = -1 → isI W G x k → Q (nI (figW G x.toInt.toNat k.toInt.toNat))) (hq0 : ¬ k = -1 → ¬ isI W G x k → Q (-1)) : w_X11_world h x k Q := by
  unfold w_X11_world w_X11_world_0 w_X11_isWorld w_X11_isWorld_0
  have z0 : (0 : Int32).toInt = 0 := rfl
  obtain ⟨o1, o2, o3, o4⟩ := id ok
  have p1 := pow_W (G := G) (j := W) o4 o2
  have eM := n_toInt (n := (G + 1) ^ W) (by omega)
  have eW := n_toInt (n := W) (by omega)
  refine ⟨fun c => ⟨fun c2 => ⟨fun _ => hq0 c (fun q => ?_), fun q => absurd rfl q⟩, fun c2 => ⟨fun c3 => ⟨fun _ => hq0 c (fun q => ?_), fun q => absurd rfl q⟩, fun c3 => ⟨fun q => absurd q (by decide), fun _ => ⟨fun c4 => hq0 c (fun q => ?_), fun c4 => ⟨fun c5 => ?_, fun c5 => hq0 c (fun q => c5 ?_)⟩⟩⟩⟩⟩, fun c => by rw [a.2.1]; exact hq1 c⟩
  · rw [t_lt, z0] at c2; have := q.1.1; omega
  · rw [a.2.1, t_le, eM] at c3; have := q.1.2; omega
  · rw [t_lt, z0] at c4; have := q.2.1; omega
  · rw [a.1, t_lt, eW] at c5
    rw [t_lt, z0] at c4 c2
    rw [a.2.1, t_le, eM] at c3
    have hq := hq2 c ⟨⟨by omega, by omega⟩, by omega, c5⟩
    obtain ⟨ex, hx⟩ := n_of (x := x) (by omega)
    obtain ⟨ek, hk⟩ := n_of (x := k) (by omega)
    generalize x.toInt.toNat = i at ex hx hq
    generalize k.toInt.toNat = j at ek hk hq
    subst ex ek
    exact c_numW a ok hx hk hq
  · rw [a.1, t_lt, eW]; exact q.2.2
theorem m_world {h : hp} {s W G : Nat} {x k : Int32} {Q : Int32 → Prop} (t : mAt h s) (a : mWld s h W G) (ok : okW W G) (hq1 : k = -1 → Q (nI ((G + 1) ^ W))) (hq2 : ¬ k = -1 → isI W G x k → Q (nI (figW G x.toInt.toNat k.toInt.toNat))) (hq0 : ¬ k = -1 → ¬ isI W G x k → Q (-1)) : w_X12_world h x k Q := by
  unfold w_X12_world w_X12_world_0
  obtain ⟨o1, o2, o3, o4⟩ := id ok
  have p1 := pow_W (G := G) (j := W) o4 o2
  have hs := t.2
  have h1 : (1 : Int32).toInt = 1 := rfl
  have eM := n_toInt (n := (G + 1) ^ W) (by omega)
  have eW := n_toInt (n := W) (by omega)
  have e1 : (nI ((G + 1) ^ W) - 1).toInt = ((G + 1) ^ W : Nat) - 1 := by rw [t_sub (by rw [eM, h1]; omega) (by rw [eM, h1]; omega), eM, h1]
  have e2 : (nI W - 1).toInt = (W : Int) - 1 := by rw [t_sub (by rw [eW, h1]; omega) (by rw [eW, h1]; omega), eW, h1]
  have z0 : (0 : Int64).toInt = 0 := rfl
  have eg : gI h 19 (ix (gI h 0 18)) = nI W := by rw [t.1, ix_n (by omega), a.1]
  rw [eg]
  refine ⟨fun c => m_worldAll t a ok ?_, fun c => m_worldAll t a ok (hq1 c)⟩
  refine m_in (fun c2 => ⟨fun q => absurd q (by decide), fun _ => ⟨by rw [t.1]; exact in_n hs (by omega), ?_⟩⟩) (fun c2 => ⟨fun _ => hq0 c (fun q => c2 ?_), fun q => absurd rfl q⟩)
  · rw [tL_int, tL_int, e1, z0] at c2
    refine m_in (fun c3 => ⟨fun q => absurd q (by decide), fun _ => ?_⟩) (fun c3 => ⟨fun _ => hq0 c (fun q => c3 ?_), fun q => absurd rfl q⟩)
    · rw [tL_int, tL_int, e2, z0] at c3
      have hq := hq2 c ⟨⟨by omega, by omega⟩, by omega, by omega⟩
      obtain ⟨ex, hx⟩ := n_of (x := x) (by omega)
      obtain ⟨ek, hk⟩ := n_of (x := k) (by omega)
      generalize x.toInt.toNat = i at ex hx hq
      generalize k.toInt.toNat = j at ek hk hq
      subst ex ek
      exact m_figureOf t a ok hx hk hq
    · rw [tL_int, tL_int, e2, z0]; have := q.2; omega
  · rw [tL_int, tL_int, e1, z0]; have := q.1; omega
