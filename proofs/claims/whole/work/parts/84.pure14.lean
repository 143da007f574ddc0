/-! what a world comes to -/
def wcV (W G i : Nat) (b : Int64) : Int64 := horF (fun k => nI (figW G i k)) b W 0
theorem m_worldComes {h : hp} {s W G i : Nat} {b : Int64} {Q : Int64 → Prop} (t : mAt h s) (a : mWld s h W G) (ok : okW W G) (hi : i < 2147483648) (hq : Q (wcV W G i b)) : w_X12_worldComes h (nI i) b Q := by
  unfold w_X12_worldComes w_X12_worldComes_0
  obtain ⟨o1, o2, o3, o4⟩ := id ok
  have hs := t.2
  refine ⟨by rw [t.1]; exact in_n hs (by omega), fun y ey => ?_⟩
  rw [t.1, ix_n (by omega), a.1] at ey
  subst ey
  unfold w_X12_worldComes_16
  intro X hX
  have key : ∀ (k : Nat) (acc : Int64), k ≤ W → Q (horF (fun k => nI (figW G i k)) b k acc) → X (acc, nI k - 1) := by
    intro k
    induction k with
    | zero =>
      intro acc _ hq
      apply hX
      exact ⟨fun _ => hq, fun c => absurd (show (nI 0 - 1) < 0 by decide) c⟩
    | succ k ih =>
      intro acc hk hq
      rw [nI_pred]
      apply hX
      refine ⟨fun c => absurd c (nI_pos (by omega)), fun _ => m_figureOf t a ok hi (by omega) ?_⟩
      intro x e x' e'
      subst e
      rw [m1] at e'
      subst e'
      exact ih _ (by omega) hq
  exact key W 0 (Nat.le_refl _) hq
/-! hold and restore -/
def cCopy (o o1 : Nat) (h : hp) : hp := cL (cI (sI h o 0 (gI h o1 0)) (o1 + 1) 0 (o + 1) 0 20) (o1 + 2) 0 (o + 2) 0 20
theorem c_copy {o o1 : Nat} {h : hp} {Q : hp → Prop} (hq : Q (cCopy o o1 h)) : w_X9_copy o o1 h Q := by
  unfold w_X9_copy w_X9_copy_0
  intro h1 e1
  refine ⟨by decide, by decide, by decide, by decide, by decide, fun h2 e2 => ⟨by decide, by decide, by decide, by decide, by decide, fun h3 e3 => ?_⟩⟩
  subst e1
  subst e2
  subst e3
  exact hq
theorem cTold_copy {o o1 : Nat} {h : hp} {D : Nat} {A : Nat → Int32} {B : Nat → Int64} (hD : D ≤ 20) (n : ∀ i j : Nat, i < 3 → j < 3 → o1 + i ≠ o + j) (a : cTold o1 h D A B) : cTold o (cCopy o o1 h) D A B := by
  have n10 := n 1 0 (by omega) (by omega)
  have n20 := n 2 0 (by omega) (by omega)
  have n21 := n 2 1 (by omega) (by omega)
  have n12 := n 1 2 (by omega) (by omega)
  have hI : ∀ x j, gI (cCopy o o1 h) x j = if x = o + 1 then va_cpy (gI (sI h o 0 (gI h o1 0)) (o1 + 1)) (gI (sI h o 0 (gI h o1 0)) x) 0 0 20 j else gI (sI h o 0 (gI h o1 0)) x j := fun x j => by
    show (if x = o + 1 then _ else _ : Nat → Int32) j = _
    by_cases e : x = o + 1
    · subst e
      rw [if_pos rfl, if_pos rfl]
      rfl
    · rw [if_neg e, if_neg e]
      rfl
  have hL : ∀ j, gL (cCopy o o1 h) (o + 2) j = va_cpy (gL h (o1 + 2)) (gL h (o + 2)) 0 0 20 j := fun j => by
    show (if o + 2 = o + 2 then _ else _ : Nat → Int64) j = _
    rw [if_pos rfl]
    rfl
  have cp : ∀ {α : Type} (f g : Nat → α) (j : Nat), j < 20 → va_cpy f g 0 0 20 j = f j := fun f g j hj => by
    unfold va_cpy
    simp
    omega
  refine ⟨?_, fun j hj => ⟨?_, ?_⟩⟩
  · rw [hI, if_neg (by omega), gI_at]; exact a.1
  · rw [hI, if_pos rfl, cp _ _ _ (by omega), gI_o _ _ (by omega)]; exact (a.2 j hj).1
  · rw [hL, cp _ _ _ (by omega)]; exact (a.2 j hj).2
