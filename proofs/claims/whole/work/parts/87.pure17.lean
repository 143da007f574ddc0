/-! unpair -/
def triN (n : Nat) : Nat := n * (n + 1) / 2
theorem triN_s (n : Nat) : triN (n + 1) = triN n + (n + 1) := by
  unfold triN
  have : (n + 1) * (n + 1 + 1) = n * (n + 1) + (n + 1) * 2 := by rw [Nat.mul_comm n (n + 1), ← Nat.mul_add]
  rw [this, Nat.add_mul_div_right _ _ (by decide)]
theorem triN_mono {a b : Nat} (h : a ≤ b) : triN a ≤ triN b := by
  induction b with
  | zero => rw [show a = 0 from by omega]; exact Nat.le_refl _
  | succ b ih =>
    rw [triN_s]
    rcases Nat.lt_or_ge b a with q | q
    · rw [show a = b + 1 from by omega, triN_s]; exact Nat.le_refl _
    · have := ih q; omega
def isTri (v d : Nat) : Prop := triN d ≤ v ∧ v < triN (d + 1)
theorem isTri_one {v a b : Nat} (ha : isTri v a) (hb : isTri v b) : a = b := by
  rcases Nat.lt_trichotomy a b with q | q | q
  · have := triN_mono (show a + 1 ≤ b from q); have := ha.2; have := hb.1; omega
  · exact q
  · have := triN_mono (show b + 1 ≤ a from q); have := hb.2; have := ha.1; omega
theorem isTri_ex {v : Nat} : ∀ n : Nat, v < triN n → ∃ d, d < n ∧ isTri v d
  | 0, h => by unfold triN at h; simp at h
  | n + 1, h => by
    rcases Nat.lt_or_ge v (triN n) with q | q
    · obtain ⟨d, h1, h2⟩ := isTri_ex n q
      exact ⟨d, by omega, h2⟩
    · exact ⟨n, Nat.lt_succ_self n, q, h⟩
theorem tri_L {x : Int64} {n : Nat} (e : x.toInt = n) (hn : n ≤ 3000000000) : (x * (x + 1) / 2).toInt = (triN n : Nat) := by
  have e1 : (1 : Int64).toInt = 1 := rfl
  have es1 : (x + 1).toInt = (n : Int) + 1 := by rw [tL_add (by rw [e1]; omega) (by rw [e1]; omega), e1, e]
  have b := sq_in (n := (n : Int)) (m := (n : Int) + 1) (by omega) (by omega) (by omega) (by omega)
  have ep : (x * (x + 1)).toInt = (n : Int) * ((n : Int) + 1) := by rw [tL_mul (by rw [e, es1]; omega) (by rw [e, es1]; omega), e, es1]
  rw [tL_d2 (by rw [ep]; omega), ep]
  rfl
def unV (v : Int64) (w : Int32) (d : Nat) : Int64 := if w = 0 then Int64.ofNat d - (v - Int64.ofNat d * (Int64.ofNat d + 1) / 2) else v - Int64.ofNat d * (Int64.ofNat d + 1) / 2
theorem c_unpair {v : Int64} {w : Int32} {Q : Int64 → Prop} (hq1 : ∀ d : Nat, 0 ≤ v.toInt → v.toInt ≤ 1000000000000000000 → isTri v.toInt.toNat d → Q (unV v w d)) (hq0 : ¬ (0 ≤ v.toInt ∧ v.toInt ≤ 1000000000000000000) → Q (-1)) : w_X11_unpair v w Q := by
  unfold w_X11_unpair w_X11_unpair_0
  refine c_within (fun c => ⟨fun _ => ?_, fun q => absurd q (by decide)⟩) (fun c => ⟨fun q => absurd rfl q, fun _ => hq0 c⟩)
  have c : 0 ≤ v.toInt ∧ v.toInt ≤ 1000000000000000000 := c
  have z0 : (0 : Int64).toInt = 0 := rfl
  have e2 : (2 : Int64).toInt = 2 := rfl
  unfold w_X11_unpair_23
  intro X hX
  have eN : ∀ n : Nat, n < 9223372036854775808 → (Int64.ofNat n).toInt = n := fun n hn => Int64.toInt_ofNat_of_lt (by omega)
  have fin : ∀ d : Nat, d ≤ 3000000000 → isTri v.toInt.toNat d → X (Int64.ofNat d, 0) := by
    intro d hd ht
    apply hX
    refine ⟨fun _ => ?_, fun c2 => absurd (Int64.le_refl 0) c2⟩
    unfold w_X11_triangle w_X11_triangle_0
    intro y ey
    have hq := hq1 d c.1 c.2 ht
    unfold unV at hq
    subst ey
    refine ⟨fun c2 => ?_, fun c2 => ?_⟩
    · rw [if_pos c2] at hq; exact hq
    · rw [if_neg c2] at hq; exact hq
  have key : ∀ (k d : Nat), k ≤ 30 → d + 2 ^ (k + 1) ≤ 2147483648 → triN d ≤ v.toInt.toNat → v.toInt.toNat < triN (d + 2 ^ (k + 1)) → X (Int64.ofNat d, Int64.ofNat (2 ^ k)) := by
    intro k
    induction k with
    | zero =>
      intro d hk hd h1 h2
      apply hX
      have ed := eN d (by omega)
      have e1 := eN 1 (by omega)
      have es : (Int64.ofNat d + Int64.ofNat (2 ^ 0)).toInt = ((d + 1 : Nat) : Int) := by rw [Nat.pow_zero, tL_add (by rw [ed, e1]; omega) (by rw [ed, e1]; omega), ed, e1]; rfl
      have eq1 : Int64.ofNat d + Int64.ofNat (2 ^ 0) = Int64.ofNat (d + 1) := tL_eq.mpr (by rw [es, eN _ (by omega)])
      have et := tri_L es (by omega)
      refine ⟨fun c2 => absurd (show Int64.ofNat (2 ^ 0) ≤ 0 from c2) (by decide), fun _ => ?_⟩
      unfold w_X11_triangle w_X11_triangle_0
      refine ⟨fun c2 => ?_, fun c2 y ey => ?_⟩
      · unfold w_X11_unpair_50
        intro z ez
        have ez : z = Int64.ofNat (2 ^ 0) / 2 := ez
        have ez : z = 0 := by rw [ez]; decide
        subst ez
        have c2 : v < (Int64.ofNat d + Int64.ofNat (2 ^ 0)) * ((Int64.ofNat d + Int64.ofNat (2 ^ 0)) + 1) / 2 := c2
        rw [tL_lt, et] at c2
        exact fin d (by omega) ⟨h1, by omega⟩
      · unfold w_X11_unpair_50
        intro z ez
        have ez : z = Int64.ofNat (2 ^ 0) / 2 := ez
        have ez : z = 0 := by rw [ez]; decide
        have ey : y = Int64.ofNat d + Int64.ofNat (2 ^ 0) := ey
        rw [eq1] at ey
        subst ez ey
        have c2 : ¬ v < (Int64.ofNat d + Int64.ofNat (2 ^ 0)) * ((Int64.ofNat d + Int64.ofNat (2 ^ 0)) + 1) / 2 := c2
        rw [tL_lt, et] at c2
        exact fin (d + 1) (by omega) ⟨by omega, h2⟩
    | succ k ih =>
      intro d hk hd h1 h2
      apply hX
      have hp2 : 2 ^ (k + 1 + 1) = 2 * 2 ^ (k + 1) := by rw [Nat.pow_succ]; omega
      have hp1 : 2 ^ (k + 1) = 2 * 2 ^ k := by rw [Nat.pow_succ]; omega
      have hpos : 0 < 2 ^ k := Nat.pow_pos (by decide)
      have ed := eN d (by omega)
      have e1 := eN (2 ^ (k + 1)) (by omega)
      have es : (Int64.ofNat d + Int64.ofNat (2 ^ (k + 1))).toInt = ((d + 2 ^ (k + 1) : Nat) : Int) := by rw [tL_add (by rw [ed, e1]; omega) (by rw [ed, e1]; omega), ed, e1]; rfl
      have eq1 : Int64.ofNat d + Int64.ofNat (2 ^ (k + 1)) = Int64.ofNat (d + 2 ^ (k + 1)) := tL_eq.mpr (by rw [es, eN _ (by omega)])
      have eh : Int64.ofNat (2 ^ (k + 1)) / 2 = Int64.ofNat (2 ^ k) := tL_eq.mpr (by rw [tL_d2 (by rw [e1]; omega), e1, eN _ (by omega)]; omega)
      have et := tri_L es (by omega)
      refine ⟨fun c2 => absurd (show Int64.ofNat (2 ^ (k + 1)) ≤ 0 from c2) (by rw [tL_le, e1, z0]; omega), fun _ => ?_⟩
      unfold w_X11_triangle w_X11_triangle_0
      refine ⟨fun c2 => ?_, fun c2 y ey => ?_⟩
      · unfold w_X11_unpair_50
        intro z ez
        have ez : z = Int64.ofNat (2 ^ (k + 1)) / 2 := ez
        rw [eh] at ez
        subst ez
        have c2 : v < (Int64.ofNat d + Int64.ofNat (2 ^ (k + 1))) * ((Int64.ofNat d + Int64.ofNat (2 ^ (k + 1))) + 1) / 2 := c2
        rw [tL_lt, et] at c2
        exact ih d (by omega) (by omega) h1 (by omega)
      · unfold w_X11_unpair_50
        intro z ez
        have ez : z = Int64.ofNat (2 ^ (k + 1)) / 2 := ez
        have ey : y = Int64.ofNat d + Int64.ofNat (2 ^ (k + 1)) := ey
        rw [eh] at ez
        rw [eq1] at ey
        subst ez ey
        have c2 : ¬ v < (Int64.ofNat d + Int64.ofNat (2 ^ (k + 1))) * ((Int64.ofNat d + Int64.ofNat (2 ^ (k + 1))) + 1) / 2 := c2
        rw [tL_lt, et] at c2
        refine ih (d + 2 ^ (k + 1)) (by omega) (by omega) (by omega) ?_
        rw [show d + 2 ^ (k + 1) + 2 ^ (k + 1) = d + 2 ^ (k + 1 + 1) from by omega]
        exact h2
  have h0 : triN 0 = 0 := rfl
  have h31 : triN 2147483648 = 2305843010287435776 := by decide
  exact key 30 0 (by omega) (by decide) (by rw [h0]; omega) (by show v.toInt.toNat < triN 2147483648; rw [h31]; omega)
