/-! how many slots hold: flags F -/
def slV (F : Nat → Nat) : Int32 := nI (F 0 + F 1 + F 2)
theorem c_slots {h : hp} {F : Nat → Nat} {Q : Int32 → Prop} (hF : ∀ i, i < 3 → F i ≤ 1 ∧ gI h (54 + 3 * i) 3 = nI (F i)) (hq : Q (slV F)) : w_X11_slotsThatHold h Q := by
  unfold w_X11_slotsThatHold w_X11_slotsThatHold_0 w_X11_slotsThatHold_4
  intro X hX
  have one : ∀ i n : Nat, i < 3 → X (nI (n + F i), nI (i + 1)) → X (nI n, nI i) := by
    intro i n hi hx
    apply hX
    obtain ⟨f1, f2⟩ := hF i hi
    refine ⟨fun c => absurd c (nI_ge (b := 3) hi (by omega)), fun _ => ⟨in_n hi (by omega), ?_⟩⟩
    have e : gI h (54 + 3 * ix (nI n, nI i).2) 3 = nI (F i) := by
      show gI h (54 + 3 * ix (nI i)) 3 = _
      rw [ix_n (by omega)]; exact f2
    rw [e]
    refine ⟨fun c y ey => ?_, fun c y ey z ez => ?_⟩
    · have h0 : F i = 0 := (nI_eq (a := F i) (b := 0) (by omega) (by omega)).mp c
      have ey : y = nI i + 1 := ey
      rw [← nI_succ] at ey
      subst ey
      rw [h0, Nat.add_zero] at hx
      exact hx
    · have h1 : F i = 1 := by
        have : ¬ F i = 0 := fun q => c (by rw [q]; rfl)
        omega
      have ey : y = nI n + 1 := ey
      have ez : z = nI i + 1 := ez
      rw [← nI_succ] at ey ez
      subst ey ez
      rw [h1] at hx
      exact hx
  refine one 0 0 (by omega) (one 1 _ (by omega) (one 2 _ (by omega) ?_))
  apply hX
  refine ⟨fun _ => ?_, fun c => absurd (show (3 : Int32) ≤ nI 3 by decide) c⟩
  show Q (nI (0 + F 0 + F 1 + F 2))
  rw [Nat.zero_add]
  exact hq
theorem m_slots {h : hp} {F : Nat → Nat} {Q : Int32 → Prop} (hF : ∀ i, i < 3 → F i ≤ 1 ∧ gI h 45 i = nI (F i)) (hq : Q (slV F)) : vp_in 0 3 ∧ (((gI h 45 (ix 0)) = 0 → (w_X12_count_148 Q h 0)) ∧ (¬ ((gI h 45 (ix 0)) = 0) → (w_X12_count_148 Q h 1))) := by
  have f0 := hF 0 (by omega)
  have f1 := hF 1 (by omega)
  have f2 := hF 2 (by omega)
  have i0 : ix 0 = 0 := by decide
  have i1 : ix 1 = 1 := by decide
  have i2 : ix 2 = 2 := by decide
  have z : ∀ n : Nat, n ≤ 1 → (nI n = 0 ↔ n = 0) := fun n hn => nI_eq (a := n) (b := 0) (by omega) (by omega)
  unfold slV at hq
  have k3 : ∀ (a b : Nat), a = F 0 → b = F 1 → w_X12_count_162 Q h (nI b) (nI a) := by
    intro a b ea eb
    unfold w_X12_count_162
    rw [i2, f2.2, z _ f2.1]
    refine ⟨by unfold vp_in; decide, fun c => ?_, fun c => ?_⟩
    · rw [show nI a + nI b + 0 = nI (F 0 + F 1 + F 2) from by rw [nI_add, show (0 : Int32) = nI 0 from rfl, nI_add, ea, eb, c]]
      exact hq
    · have c1 : F 2 = 1 := by omega
      rw [show nI a + nI b + 1 = nI (F 0 + F 1 + F 2) from by rw [nI_add, show (1 : Int32) = nI 1 from rfl, nI_add, ea, eb, c1]]
      exact hq
  have k2 : ∀ a : Nat, a = F 0 → w_X12_count_148 Q h (nI a) := by
    intro a ea
    unfold w_X12_count_148
    rw [i1, f1.2, z _ f1.1]
    exact ⟨by unfold vp_in; decide, fun c => k3 a 0 ea c.symm, fun c => k3 a 1 ea (by omega)⟩
  rw [i0, f0.2, z _ f0.1]
  exact ⟨by unfold vp_in; decide, fun c => k2 0 c.symm, fun c => k2 1 (by omega)⟩
