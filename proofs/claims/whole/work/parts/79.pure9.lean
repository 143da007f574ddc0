/-! rests -/
theorem neg_emod {u P : Int} (hP : 0 < P) : (-u) % P = if u % P = 0 then 0 else P - u % P := by
  have h1 := Int.emod_nonneg u (show P ≠ 0 by omega)
  have h2 := Int.emod_lt_of_pos u hP
  have h3 := Int.mul_ediv_add_emod u P
  by_cases c : u % P = 0
  · rw [if_pos c]
    exact Int.emod_eq_zero_of_dvd ((Int.dvd_neg).mpr (Int.dvd_of_emod_eq_zero c))
  · rw [if_neg c]
    have e : -u = (P - u % P) + P * (-(u / P) - 1) := by
      rw [Int.mul_sub, Int.mul_neg]
      omega
    rw [e, Int.add_mul_emod_self_left, Int.emod_eq_of_lt (by omega) (by omega)]
theorem t_div {x y : Int32} (hy : 0 < y.toInt) : (0 ≤ x.toInt → (x / y).toInt = x.toInt / y.toInt) ∧ (x.toInt < 0 → (x / y).toInt = -((-x.toInt) / y.toInt)) := by
  have h1 := b_lo x
  have h2 := b_hi x
  have e : (x / y).toInt = (x.toInt.tdiv y.toInt).bmod (2 ^ 32) := Int32.toInt_div x y
  refine ⟨fun h => ?_, fun h => ?_⟩
  · have a1 := Int.ediv_nonneg h (Int.le_of_lt hy)
    have a2 := Int.ediv_le_self y.toInt h
    rw [e, Int.tdiv_eq_ediv_of_nonneg h, bm32 (by omega) (by omega)]
  · have a1 := Int.ediv_nonneg (a := -x.toInt) (by omega) (Int.le_of_lt hy)
    have a2 := Int.ediv_le_self (a := -x.toInt) y.toInt (by omega)
    have e2 : x.toInt.tdiv y.toInt = -((-x.toInt) / y.toInt) := by
      have := Int.neg_tdiv (a := -x.toInt) (b := y.toInt)
      rw [Int.neg_neg] at this
      rw [this, Int.tdiv_eq_ediv_of_nonneg (by omega)]
    rw [e, e2, bm32 (by omega) (by omega)]
theorem tL_div {x y : Int64} (hy : 0 < y.toInt) : (0 ≤ x.toInt → (x / y).toInt = x.toInt / y.toInt) ∧ (x.toInt < 0 → (x / y).toInt = -((-x.toInt) / y.toInt) ∨ x.toInt = -9223372036854775808) := by
  have h1 := tL_lo x
  have h2 := tL_hi x
  have e : (x / y).toInt = (x.toInt.tdiv y.toInt).bmod (2 ^ 64) := Int64.toInt_div x y
  refine ⟨fun h => ?_, fun h => ?_⟩
  · have a1 := Int.ediv_nonneg h (Int.le_of_lt hy)
    have a2 := Int.ediv_le_self y.toInt h
    rw [e, Int.tdiv_eq_ediv_of_nonneg h, bm64 (by omega) (by omega)]
  · have a1 := Int.ediv_nonneg (a := -x.toInt) (by omega) (Int.le_of_lt hy)
    have a2 := Int.ediv_le_self (a := -x.toInt) y.toInt (by omega)
    have e2 : x.toInt.tdiv y.toInt = -((-x.toInt) / y.toInt) := by
      have := Int.neg_tdiv (a := -x.toInt) (b := y.toInt)
      rw [Int.neg_neg] at this
      rw [this, Int.tdiv_eq_ediv_of_nonneg (by omega)]
    refine Or.inl ?_
    rw [e, e2, bm64 (by omega) (by omega)]
theorem j_rem {x y : Int32} (hy : 0 < y.toInt) : (0 ≤ x.toInt → (jrem x y).toInt = x.toInt % y.toInt) ∧ (x.toInt < 0 → (jrem x y).toInt = -((-x.toInt) % y.toInt)) := by
  have h1 := b_lo x
  have h2 := b_hi x
  obtain ⟨d1, d2⟩ := t_div (x := x) hy
  unfold jrem
  refine ⟨fun h => ?_, fun h => ?_⟩
  · have h3 := Int.mul_ediv_add_emod x.toInt y.toInt
    have h4 := Int.emod_nonneg x.toInt (show y.toInt ≠ 0 by omega)
    have a1 := Int.mul_nonneg (Int.le_of_lt hy) (Int.ediv_nonneg h (Int.le_of_lt hy))
    have e0 : (x / y).toInt * y.toInt = y.toInt * (x.toInt / y.toInt) := by rw [d1 h, Int.mul_comm]
    have em : (x / y * y).toInt = y.toInt * (x.toInt / y.toInt) := by rw [t_mul (by rw [e0]; omega) (by rw [e0]; omega), e0]
    rw [t_sub (by rw [em]; omega) (by rw [em]; omega), em]
    omega
  · have h3 := Int.mul_ediv_add_emod (-x.toInt) y.toInt
    have h4 := Int.emod_nonneg (-x.toInt) (show y.toInt ≠ 0 by omega)
    have a1 := Int.mul_nonneg (Int.le_of_lt hy) (Int.ediv_nonneg (a := -x.toInt) (by omega) (Int.le_of_lt hy))
    have e0 : (x / y).toInt * y.toInt = -(y.toInt * ((-x.toInt) / y.toInt)) := by rw [d2 h, Int.neg_mul, Int.mul_comm]
    have em : (x / y * y).toInt = -(y.toInt * ((-x.toInt) / y.toInt)) := by rw [t_mul (by rw [e0]; omega) (by rw [e0]; omega), e0]
    rw [t_sub (by rw [em]; omega) (by rw [em]; omega), em]
    omega
theorem l_rem {x y : Int64} (hy : 0 < y.toInt) : (0 ≤ x.toInt → (lrem x y).toInt = x.toInt % y.toInt) ∧ (x.toInt < 0 → -9223372036854775808 < x.toInt → (lrem x y).toInt = -((-x.toInt) % y.toInt)) := by
  have h1 := tL_lo x
  have h2 := tL_hi x
  obtain ⟨d1, d2⟩ := tL_div (x := x) hy
  unfold lrem
  refine ⟨fun h => ?_, fun h hm => ?_⟩
  · have h3 := Int.mul_ediv_add_emod x.toInt y.toInt
    have h4 := Int.emod_nonneg x.toInt (show y.toInt ≠ 0 by omega)
    have a1 := Int.mul_nonneg (Int.le_of_lt hy) (Int.ediv_nonneg h (Int.le_of_lt hy))
    have e0 : (x / y).toInt * y.toInt = y.toInt * (x.toInt / y.toInt) := by rw [d1 h, Int.mul_comm]
    have em : (x / y * y).toInt = y.toInt * (x.toInt / y.toInt) := by rw [tL_mul (by rw [e0]; omega) (by rw [e0]; omega), e0]
    rw [tL_sub (by rw [em]; omega) (by rw [em]; omega), em]
    omega
  · have h3 := Int.mul_ediv_add_emod (-x.toInt) y.toInt
    have h4 := Int.emod_nonneg (-x.toInt) (show y.toInt ≠ 0 by omega)
    have a1 := Int.mul_nonneg (Int.le_of_lt hy) (Int.ediv_nonneg (a := -x.toInt) (by omega) (Int.le_of_lt hy))
    have d3 : (x / y).toInt = -((-x.toInt) / y.toInt) := by
      rcases d2 h with q | q
      · exact q
      · omega
    have e0 : (x / y).toInt * y.toInt = -(y.toInt * ((-x.toInt) / y.toInt)) := by rw [d3, Int.neg_mul, Int.mul_comm]
    have em : (x / y * y).toInt = -(y.toInt * ((-x.toInt) / y.toInt)) := by rw [tL_mul (by rw [e0]; omega) (by rw [e0]; omega), e0]
    rw [tL_sub (by rw [em]; omega) (by rw [em]; omega), em]
    omega
/-- the rest of z by P, as an int -/
def rsV (P : Nat) (z : Int) : Int32 := nI (z % (P : Int)).toNat
theorem rsV_in {P : Nat} (h1 : 2 ≤ P) (h2 : P ≤ 97) (z : Int) : (rsV P z).toInt = z % P ∧ 0 ≤ z % P ∧ z % P < P := by
  have a1 := Int.emod_nonneg z (show (P : Int) ≠ 0 by omega)
  have a2 := Int.emod_lt_of_pos z (show (0 : Int) < P by omega)
  refine ⟨?_, a1, a2⟩
  unfold rsV
  rw [n_toInt (by omega)]
  omega
def okP (P : Nat) : Prop := 2 ≤ P ∧ P ≤ 97
theorem m_restOf {h : hp} {s P : Nat} {x : Int32} {Q : Int32 → Prop} (t : mAt h s) (aP : gI h 12 s = nI P) (ok : okP P) (hq : Q (rsV P x.toInt)) : w_X12_restOf h x Q := by
  unfold w_X12_restOf w_X12_restOf_0
  have hs := t.2
  obtain ⟨p1, p2⟩ := ok
  have eP := n_toInt (n := P) (by omega)
  have z0 : (0 : Int32).toInt = 0 := rfl
  obtain ⟨r1, r2, r3⟩ := rsV_in p1 p2 x.toInt
  rw [t.1, ix_n (by omega), aP]
  refine ⟨in_n (by omega) (by omega), nI_ne0 (by omega) (by omega), fun y ey => ?_⟩
  subst ey
  obtain ⟨j1, j2⟩ := j_rem (x := x) (y := nI P) (by rw [eP]; omega)
  rw [eP] at j1 j2
  rcases Int.lt_or_le x.toInt 0 with c | c
  · have j2 := j2 c
    have ne := neg_emod (u := -x.toInt) (P := (P : Int)) (by omega)
    rw [Int.neg_neg] at ne
    refine ⟨fun c2 => ?_, fun c2 => ⟨in_n (by omega) (by omega), ?_⟩⟩
    · rw [t_le, z0, j2] at c2
      have a1 := Int.emod_nonneg (-x.toInt) (show (P : Int) ≠ 0 by omega)
      rw [if_pos (by omega)] at ne
      have : jrem x (nI P) = rsV P x.toInt := t_eq.mpr (by rw [j2, r1, ne]; omega)
      rw [this]; exact hq
    · rw [t_le, z0, j2] at c2
      have a2 := Int.emod_lt_of_pos (-x.toInt) (show (0 : Int) < P by omega)
      rw [if_neg (by omega)] at ne
      have : jrem x (nI P) + nI P = rsV P x.toInt := t_eq.mpr (by rw [t_add (by rw [j2, eP]; omega) (by rw [j2, eP]; omega), j2, eP, r1, ne]; omega)
      rw [this]; exact hq
  · have j1 := j1 c
    refine ⟨fun c2 => ?_, fun c2 => absurd ?_ c2⟩
    · have : jrem x (nI P) = rsV P x.toInt := t_eq.mpr (by rw [j1, r1])
      rw [this]; exact hq
    · rw [t_le, z0, j1]; exact r2
theorem xor_sign (x y : Int64) (hy : 0 < y.toInt) : 0 ≤ (x ^^^ y) ↔ 0 ≤ x.toInt := by
  have z0 : (0 : Int64).toInt = 0 := rfl
  have m1 : ∀ z : Int64, z.toBitVec.msb = decide (z.toInt < 0) := fun z => BitVec.msb_eq_toInt
  have e : (x ^^^ y).toBitVec.msb = (x.toBitVec.msb ^^ y.toBitVec.msb) := by
    rw [Int64.toBitVec_xor, BitVec.msb_xor]
  rw [m1, m1, m1, show decide (y.toInt < 0) = false from decide_eq_false (by omega), Bool.xor_false] at e
  rw [tL_le, z0]
  have := decide_eq_decide.mp e
  omega
theorem c_restOf {h : hp} {o P : Nat} {v : Int64} {Q : Int32 → Prop} (aP : gI h o 1 = nI P) (ok : okP P) (hv : -9223372036854775808 < v.toInt) (hq : Q (rsV P v.toInt)) : w_X6_restOf o h v Q := by
  unfold w_X6_restOf w_X6_restOf_0 w_J9_floorMod_f86c9 w_J9_floorMod_f86c9_0
  obtain ⟨p1, p2⟩ := ok
  have eP := n_toInt (n := P) (by omega)
  have z0 : (0 : Int64).toInt = 0 := rfl
  have eL : (nI P).toInt64.toInt = P := by rw [tL_int, eP]
  obtain ⟨r1, r2, r3⟩ := rsV_in p1 p2 v.toInt
  obtain ⟨j1, j2⟩ := l_rem (x := v) (y := (nI P).toInt64) (by rw [eL]; omega)
  have xs := xor_sign v (nI P).toInt64 (by rw [eL]; omega)
  rw [eL] at j1 j2
  have fin : ∀ w : Int64, w.toInt = v.toInt % P → w.toInt32 = rsV P v.toInt := fun w hw => t_eq.mpr (by
    rw [Int64.toInt_toInt32, bm32 (by omega) (by omega), hw, r1])
  rw [aP]
  refine ⟨fun _ => ⟨fun c => ?_, fun y ey => ?_⟩, fun c => absurd (nI_le (a := 2) (by omega) (by omega)) c⟩
  · rw [tL_eq, eL, z0] at c; omega
  · subst ey
    refine ⟨fun c => ?_, fun c => ⟨fun c2 => ?_, fun c2 => ?_⟩⟩
    · rw [xs] at c
      rw [fin _ (j1 c)]; exact hq
    · rw [xs] at c
      have j2 := j2 (by omega) hv
      have ne := neg_emod (u := -v.toInt) (P := (P : Int)) (by omega)
      rw [Int.neg_neg] at ne
      rw [tL_eq, z0, j2] at c2
      rw [if_pos (by omega)] at ne
      rw [fin _ (by rw [j2, ne]; exact c2)]; exact hq
    · rw [xs] at c
      have j2 := j2 (by omega) hv
      have ne := neg_emod (u := -v.toInt) (P := (P : Int)) (by omega)
      rw [Int.neg_neg] at ne
      rw [tL_eq, z0, j2] at c2
      have a1 := Int.emod_nonneg (-v.toInt) (show (P : Int) ≠ 0 by omega)
      have a2 := Int.emod_lt_of_pos (-v.toInt) (show (0 : Int) < P by omega)
      rw [if_neg (by omega)] at ne
      rw [fin _ (by rw [tL_add (by rw [j2, eL]; omega) (by rw [j2, eL]; omega), j2, eL, ne]; omega)]; exact hq
