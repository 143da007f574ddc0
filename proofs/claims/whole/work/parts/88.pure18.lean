theorem m_paired0 {x : Int64} {n : Nat} {Q : Int64 → Prop} (e : x.toInt = n) (hn : n ≤ 3000000000) (hq : Q (x * (x + 1) / 2)) : w_X12_paired x 0 Q := by
  have e0 : x + 0 = x := Int64.add_zero x
  refine m_paired (by rw [e0, e]; omega) (by rw [e0, e]; omega) ?_
  unfold prV
  rw [e0, Int64.add_zero]
  exact hq
theorem m_unpair {v : Int64} {w : Int32} {Q : Int64 → Prop} (hq1 : ∀ d : Nat, 0 ≤ v.toInt → v.toInt ≤ 1000000000000000000 → isTri v.toInt.toNat d → Q (unV v w d)) (hq0 : ¬ (0 ≤ v.toInt ∧ v.toInt ≤ 1000000000000000000) → Q (-1)) : w_X12_unpair v w Q := by
  unfold w_X12_unpair w_X12_unpair_0
  refine m_in (fun c => ⟨fun _ => ?_, fun q => absurd q (by decide)⟩) (fun c => ⟨fun q => absurd rfl q, fun _ => hq0 c⟩)
  have c : 0 ≤ v.toInt ∧ v.toInt ≤ 1000000000000000000 := c
  have i1 : (1 : Int64).toInt = 1 := rfl
  unfold w_X12_unpair_23
  intro X hX
  have eN : ∀ n : Nat, n < 9223372036854775808 → (Int64.ofNat n).toInt = n := fun n hn => Int64.toInt_ofNat_of_lt (by omega)
  have key : ∀ (n a b : Nat), b - a ≤ n → a ≤ b → b ≤ 1500000000 → triN a ≤ v.toInt.toNat → v.toInt.toNat < triN (b + 1) → X (Int64.ofNat a, Int64.ofNat b) := by
    intro n
    induction n with
    | zero =>
      intro a b hn hab hb h1 h2
      have eab : b = a := by omega
      subst eab
      apply hX
      have eb := eN b (by omega)
      refine ⟨fun _ => m_paired0 eb (by omega) (fun y ey => ?_), fun c2 => absurd (Int64.le_refl _) c2⟩
      have hq := hq1 b c.1 c.2 ⟨h1, h2⟩
      unfold unV at hq
      subst ey
      refine ⟨fun c2 => ?_, fun c2 => ?_⟩
      · rw [if_pos c2] at hq; exact hq
      · rw [if_neg c2] at hq; exact hq
    | succ n ih =>
      intro a b hn hab hb h1 h2
      rcases Nat.eq_or_lt_of_le hab with q | q
      · exact ih a b (by omega) hab hb h1 h2
      · apply hX
        have ea := eN a (by omega)
        have eb := eN b (by omega)
        have es : (Int64.ofNat a + Int64.ofNat b).toInt = (a : Int) + b := by rw [tL_add (by rw [ea, eb]; omega) (by rw [ea, eb]; omega), ea, eb]
        have es1 : (Int64.ofNat a + Int64.ofNat b + 1).toInt = (a : Int) + b + 1 := by rw [tL_add (by rw [es, i1]; omega) (by rw [es, i1]; omega), es, i1]
        obtain ⟨m, hm⟩ : ∃ m : Nat, m = (a + b + 1) / 2 := ⟨_, rfl⟩
        have em : (Int64.ofNat a + Int64.ofNat b + 1) / 2 = Int64.ofNat m := tL_eq.mpr (by rw [tL_d2 (by rw [es1]; omega), es1, eN m (by omega)]; omega)
        have emi := eN m (by omega)
        refine ⟨fun c2 => absurd (show Int64.ofNat b ≤ Int64.ofNat a from c2) (by rw [tL_le, ea, eb]; omega), fun _ y ey => ?_⟩
        have ey : y = (Int64.ofNat a + Int64.ofNat b + 1) / 2 := ey
        rw [em] at ey
        subst ey
        have et := tri_L emi (by omega)
        refine m_paired0 emi (by omega) ⟨fun c2 z ez => ?_, fun c2 => ?_⟩
        · rw [tL_lt, et] at c2
          have ez : z = Int64.ofNat (m - 1) := by
            rw [ez]
            exact tL_eq.mpr (by rw [tL_sub (by rw [emi, i1]; omega) (by rw [emi, i1]; omega), emi, i1, eN (m - 1) (by omega)]; omega)
          subst ez
          refine ih a (m - 1) (by omega) (by omega) (by omega) h1 ?_
          rw [show m - 1 + 1 = m from by omega]
          omega
        · rw [tL_lt, et] at c2
          exact ih m b (by omega) (by omega) hb (by omega) h2
  have h0 : triN 0 = 0 := rfl
  have h15 : triN (1500000000 + 1) = 1125000002250000001 := by decide
  exact key 1500000000 0 1500000000 (by omega) (by omega) (by omega) (by rw [h0]; omega) (by rw [h15]; omega)
