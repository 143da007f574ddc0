/-! rows: R of them, of S places each, the number N at each; the class's text lies at o, the model's side is s -/
def okRows (R : Nat) (S : Nat → Nat) (N : Nat → Nat → Int32) : Prop := R ≤ 6 ∧ ∀ r, r < R → S r ≤ 6 ∧ ∀ k, k < S r → -99 ≤ (N r k).toInt ∧ (N r k).toInt ≤ 99
def cRows (o : Nat) (h : hp) (R : Nat) (S : Nat → Nat) (N : Nat → Nat → Int32) : Prop := gI h o 0 = nI R ∧ ∀ r, r < R → gI h (o + 1) r = nI (S r) ∧ ∀ k, k < S r → gI h (o + 3) (6 * r + k) = N r k
def mRows (s : Nat) (h : hp) (R : Nat) (S : Nat → Nat) (N : Nat → Nat → Int32) : Prop := gI h 9 s = nI R ∧ ∀ r, r < R → gI h 10 (6 * s + r) = nI (S r) ∧ ∀ k, k < S r → gI h 11 (36 * s + 6 * r + k) = N r k
def cAt (h : hp) (o : Nat) : Prop := gR h 0 = o ∧ shC o = 7
def mAt (h : hp) (s : Nat) : Prop := gI h 0 18 = nI s ∧ s < 2
abbrev isR (R : Nat) (x : Int32) : Prop := 0 ≤ x.toInt ∧ x.toInt < (R : Int)
/-- an answer of a comparison -/
theorem bm64 {z : Int} (h1 : -9223372036854775808 ≤ z) (h2 : z < 9223372036854775808) : z.bmod (2 ^ 64) = z := Int.bmod_eq_of_le (by omega) (by omega)
theorem c_isRow {h : hp} {o R : Nat} {S : Nat → Nat} {N : Nat → Nat → Int32} {x : Int32} {Q : Int32 → Prop} (t : cAt h o) (a : cRows o h R S N) (ok : okRows R S N) (hq1 : isR R x → Q 1) (hq0 : ¬ isR R x → Q 0) : w_X11_isRow h x Q := by
  unfold w_X11_isRow w_X11_isRow_0
  have h0 : (0 : Int32).toInt = 0 := rfl
  have hR := n_toInt (n := R) (by have := ok.1; omega)
  refine ⟨fun c => hq0 (fun z => ?_), fun c => ⟨by rw [t.1]; exact t.2, fun c2 => hq0 (fun z => ?_), fun c2 => hq1 ?_⟩⟩
  · have := z.1; rw [t_lt, h0] at c; omega
  · rw [t.1, a.1, t_le, hR] at c2; have := z.2; omega
  · rw [t.1, a.1, t_le, hR] at c2; rw [t_lt, h0] at c; exact ⟨by omega, by omega⟩
theorem m_in {x y z : Int64} {Q : Int32 → Prop} (hq1 : y.toInt ≤ x.toInt ∧ x.toInt ≤ z.toInt → Q 1) (hq0 : ¬ (y.toInt ≤ x.toInt ∧ x.toInt ≤ z.toInt) → Q 0) : w_X12_in x y z Q := by
  unfold w_X12_in w_X12_in_0
  refine ⟨fun c => hq0 ?_, fun c => ⟨fun c2 => hq0 ?_, fun c2 => hq1 ?_⟩⟩
  · rw [tL_lt] at c; omega
  · rw [tL_lt] at c2; omega
  · rw [tL_lt] at c c2; omega
theorem c_within {x y z : Int64} {Q : Int32 → Prop} (hq1 : y.toInt ≤ x.toInt ∧ x.toInt ≤ z.toInt → Q 1) (hq0 : ¬ (y.toInt ≤ x.toInt ∧ x.toInt ≤ z.toInt) → Q 0) : w_X11_within x y z Q := m_in hq1 hq0
theorem m_isRow {h : hp} {s R : Nat} {S : Nat → Nat} {N : Nat → Nat → Int32} {x : Int32} {Q : Int32 → Prop} (t : mAt h s) (a : mRows s h R S N) (ok : okRows R S N) (hq1 : isR R x → Q 1) (hq0 : ¬ isR R x → Q 0) : w_X12_isRow h x Q := by
  unfold w_X12_isRow w_X12_isRow_0
  have hR := n_toInt (n := R) (by have := ok.1; omega)
  have h1 : (1 : Int32).toInt = 1 := rfl
  have h64 : (0 : Int64).toInt = 0 := rfl
  have hok := ok.1
  have hs := t.2
  rw [t.1, ix_n (by omega), a.1]
  have e : (nI R - 1).toInt = (R : Int) - 1 := by rw [t_sub (by rw [hR, h1]; omega) (by rw [hR, h1]; omega), hR, h1]
  refine ⟨in_n hs (by omega), m_in (fun c => ⟨by unfold isZ; decide, hq1 ?_⟩) (fun c => ⟨by unfold isZ; decide, hq0 ?_⟩)⟩
  · rw [tL_int, tL_int, e, h64] at c; exact ⟨by omega, by omega⟩
  · rw [tL_int, tL_int, e, h64] at c; intro z; have := z.1; have := z.2; omega
/-- the number at a place, 0 where there is none -/
def numV (R : Nat) (S : Nat → Nat) (N : Nat → Nat → Int32) (r k : Nat) : Int32 := if r < R ∧ k < S r then N r k else 0
theorem c_numberAt {h : hp} {o R : Nat} {S : Nat → Nat} {N : Nat → Nat → Int32} {r k : Nat} {Q : Int32 → Prop} (a : cRows o h R S N) (ok : okRows R S N) (hr : r < R) (hk : k < 2147483648) (hq : Q (numV R S N r k)) : w_X7_numberAt o h (nI r) (nI k) Q := by
  have hR := ok.1
  obtain ⟨a1, a2⟩ := a.2 r hr
  obtain ⟨o1, o2⟩ := ok.2 r hr
  unfold w_X7_numberAt w_X7_numberAt_0
  refine ⟨fun c => absurd c (nI_pos (by omega)), fun _ => ⟨fun c => absurd c ?_, fun _ => ⟨fun c => absurd c (nI_pos (by omega)), fun _ => ⟨in_n (by omega) (by omega), ?_⟩⟩⟩⟩
  · rw [a.1]; exact nI_ge hr (by omega)
  · rw [ix_n (by omega), a1]
    by_cases hS : k < S r
    · refine ⟨fun c => absurd c (nI_ge hS (by omega)), fun _ => ?_⟩
      unfold w_X7_numberAt_31
      have e : nI r * 6 + nI k = nI (6 * r + k) := t_eq.mpr (by
        have h6 : (6 : Int32).toInt = 6 := rfl
        have hr1 := n_toInt (n := r) (by omega)
        have hk1 := n_toInt (n := k) (by omega)
        have e1 : (nI r * 6).toInt = (r : Int) * 6 := by rw [t_mul (by rw [hr1, h6]; omega) (by rw [hr1, h6]; omega), hr1, h6]
        rw [t_add (by rw [e1, hk1]; omega) (by rw [e1, hk1]; omega), e1, hk1, n_toInt (by omega)]
        omega)
      refine ⟨fun z => absurd z (by decide), fun _ => ?_⟩
      rw [e]
      refine ⟨in_n (by omega) (by omega), ?_⟩
      rw [ix_n (by omega), a2 k hS]
      unfold numV at hq
      rw [if_pos ⟨hr, hS⟩] at hq
      exact hq
    · refine ⟨fun _ => ?_, fun c => absurd (nI_le (by omega) (by omega)) c⟩
      unfold w_X7_numberAt_31
      unfold numV at hq
      rw [if_neg (fun z => hS z.2)] at hq
      exact ⟨fun _ => hq, fun z => absurd rfl z⟩
theorem m_longAt {h : hp} {s R : Nat} {S : Nat → Nat} {N : Nat → Nat → Int32} {r : Nat} {Q : Int32 → Prop} (t : mAt h s) (a : mRows s h R S N) (ok : okRows R S N) (hr : r < R) (hq : Q (nI (S r))) : w_X12_longAt h (nI r) Q := by
  have hR := ok.1
  have hs := t.2
  unfold w_X12_longAt w_X12_longAt_0
  have e : 6 * nI s + nI r = nI (6 * s + r) := t_eq.mpr (by
    have h6 : (6 : Int32).toInt = 6 := rfl
    have hr1 := n_toInt (n := r) (by omega)
    have hk1 := n_toInt (n := s) (by omega)
    have e1 : (6 * nI s).toInt = 6 * (s : Int) := by rw [t_mul (by rw [hk1, h6]; omega) (by rw [hk1, h6]; omega), hk1, h6]
    rw [t_add (by rw [e1, hr1]; omega) (by rw [e1, hr1]; omega), e1, hr1, n_toInt (by omega)]
    omega)
  rw [t.1, e, ix_n (by omega), (a.2 r hr).1]
  exact ⟨in_n (by omega) (by omega), hq⟩
theorem m_at {h : hp} {s R : Nat} {S : Nat → Nat} {N : Nat → Nat → Int32} {r k : Nat} {Q : Int32 → Prop} (t : mAt h s) (a : mRows s h R S N) (ok : okRows R S N) (hr : r < R) (hk : k < S r) (hq : Q (N r k)) : w_X12_at h (nI r) (nI k) Q := by
  have hR := ok.1
  have hs := t.2
  have hS := (ok.2 r hr).1
  unfold w_X12_at w_X12_at_0
  have e : 36 * nI s + 6 * nI r + nI k = nI (36 * s + 6 * r + k) := t_eq.mpr (by
    have h6 : (6 : Int32).toInt = 6 := rfl
    have h36 : (36 : Int32).toInt = 36 := rfl
    have hr1 := n_toInt (n := r) (by omega)
    have hs1 := n_toInt (n := s) (by omega)
    have hk1 := n_toInt (n := k) (by omega)
    have e1 : (36 * nI s).toInt = 36 * (s : Int) := by rw [t_mul (by rw [hs1, h36]; omega) (by rw [hs1, h36]; omega), hs1, h36]
    have e2 : (6 * nI r).toInt = 6 * (r : Int) := by rw [t_mul (by rw [hr1, h6]; omega) (by rw [hr1, h6]; omega), hr1, h6]
    have e3 : (36 * nI s + 6 * nI r).toInt = 36 * (s : Int) + 6 * (r : Int) := by rw [t_add (by rw [e1, e2]; omega) (by rw [e1, e2]; omega), e1, e2]
    rw [t_add (by rw [e3, hk1]; omega) (by rw [e3, hk1]; omega), e3, hk1, n_toInt (by omega)]
    omega)
  rw [t.1, e, ix_n (by omega), (a.2 r hr).2 k hk]
  exact ⟨in_n (by omega) (by omega), hq⟩
/-- what row(r, k) answers -/
def rowV (R : Nat) (S : Nat → Nat) (N : Nat → Nat → Int32) (x k : Int32) : Int32 :=
  if 0 ≤ x.toInt ∧ x.toInt < (R : Int) then (if k = -1 then nI (S x.toInt.toNat) else if 0 ≤ k.toInt ∧ k.toInt < (S x.toInt.toNat : Int) then N x.toInt.toNat k.toInt.toNat else -1000) else -1000
theorem isR_n {R : Nat} {x : Int32} (h : isR R x) : ∃ r, r < R ∧ x = nI r ∧ x.toInt.toNat = r := ⟨x.toInt.toNat, by have := h.1; have := h.2; omega, (n_of h.1).1, rfl⟩
theorem c_row {h : hp} {o R : Nat} {S : Nat → Nat} {N : Nat → Nat → Int32} {x k : Int32} {Q : Int32 → Prop} (t : cAt h o) (a : cRows o h R S N) (ok : okRows R S N) (hq : Q (rowV R S N x k)) : w_X11_row h x k Q := by
  unfold w_X11_row w_X11_row_0
  have hR := ok.1
  refine c_isRow t a ok (fun z => ⟨fun _ => ⟨by rw [t.1]; exact t.2, ?_⟩, fun c => absurd c (by decide)⟩) (fun z => ⟨fun c => absurd rfl c, fun _ => ?_⟩)
  · obtain ⟨r, hr, rfl, er⟩ := isR_n z
    unfold rowV at hq
    rw [if_pos z, er] at hq
    refine ⟨in_n (by omega) (by omega), fun y ey => ?_⟩
    rw [t.1, ix_n (by omega), (a.2 r hr).1] at ey
    subst ey
    have hS := (ok.2 r hr).1
    have eS := n_toInt (n := S r) (by omega)
    refine ⟨fun c => ?_, fun c => ?_⟩
    · rw [if_neg c] at hq
      refine ⟨fun c2 => ?_, fun c2 => ⟨fun c3 => ?_, fun c3 => ⟨by rw [t.1]; exact t.2, ?_⟩⟩⟩
      · rw [t_lt, show (0 : Int32).toInt = 0 from rfl] at c2
        rw [if_neg (by omega)] at hq; exact hq
      · rw [t_le, eS] at c3
        rw [if_neg (by omega)] at hq; exact hq
      · rw [t_le, eS] at c3
        rw [t_lt, show (0 : Int32).toInt = 0 from rfl] at c2
        rw [if_pos ⟨by omega, by omega⟩] at hq
        obtain ⟨ek, hk⟩ := n_of (x := k) (by omega)
        have hkS : k.toInt.toNat < S r := by omega
        rw [t.1]
        generalize k.toInt.toNat = j at ek hk hkS hq
        subst ek
        refine c_numberAt a ok hr hk ?_
        unfold numV
        rw [if_pos ⟨hr, hkS⟩]
        exact hq
    · rw [if_pos c] at hq; exact hq
  · unfold rowV at hq
    rw [if_neg z] at hq
    exact hq
theorem m_row {h : hp} {s R : Nat} {S : Nat → Nat} {N : Nat → Nat → Int32} {x k : Int32} {Q : Int32 → Prop} (t : mAt h s) (a : mRows s h R S N) (ok : okRows R S N) (hq : Q (rowV R S N x k)) : w_X12_row h x k Q := by
  unfold w_X12_row w_X12_row_0
  refine m_isRow t a ok (fun z => ⟨fun _ => ?_, fun c => absurd c (by decide)⟩) (fun z => ⟨fun c => absurd rfl c, fun _ => ?_⟩)
  · obtain ⟨r, hr, rfl, er⟩ := isR_n z
    unfold rowV at hq
    rw [if_pos z, er] at hq
    have hS := (ok.2 r hr).1
    have eS := n_toInt (n := S r) (by omega)
    have h1 : (1 : Int32).toInt = 1 := rfl
    have h64 : (0 : Int64).toInt = 0 := rfl
    have e : (nI (S r) - 1).toInt = (S r : Int) - 1 := by rw [t_sub (by rw [eS, h1]; omega) (by rw [eS, h1]; omega), eS, h1]
    refine ⟨fun c => ?_, fun c => ?_⟩
    · rw [if_neg c] at hq
      refine m_longAt t a ok hr ?_
      refine m_in (fun c2 => ⟨fun q => absurd q (by decide), fun _ => ?_⟩) (fun c2 => ⟨fun _ => ?_, fun q => absurd rfl q⟩)
      · rw [tL_int, tL_int, e, h64] at c2
        rw [if_pos ⟨by omega, by omega⟩] at hq
        obtain ⟨ek, hk⟩ := n_of (x := k) (by omega)
        have hkS : k.toInt.toNat < S r := by omega
        generalize k.toInt.toNat = j at ek hk hkS hq
        subst ek
        exact m_at t a ok hr hkS hq
      · rw [tL_int, tL_int, e, h64] at c2
        rw [if_neg (by omega)] at hq
        exact hq
    · rw [if_pos c] at hq
      exact m_longAt t a ok hr hq
  · unfold rowV at hq
    rw [if_neg z] at hq
    exact hq
