/-! how many slots hold: flags F -/
def slV (F : Nat → Nat) : Int32 := nI (F 0 + F 1 + F 2)
theorem c_slots {h : hp} {F : Nat → Nat} {Q : Int32 → Prop} (hF : ∀ i, i < 3 → F i ≤ 1 ∧ gI h (54 + 3 * i) 3 = nI (F i)) (hq : Q (slV F)) : w_X11_slotsThatHold h Q := by
  unfold w_X11_slotsThatHold w_X11_slotsThatHold_0 w_X11_slotsThatHold_4
  intro X hX
  have one : ∀ i n : Nat, i < 3 → X (nI (n + F i), nI (i + 1)) → X (nI n, nI i) := by
    intro i n hi hx
    apply hX
    obtain ⟨f1, f2⟩ := hF i hi
    refine ⟨fun c => absurd c (nI_ge (b := 3) hi (by omega)), fun _ => ⟨in_n hi (by omega), ?_⟩⟩
    have e : gI h (54 + 3 * ix (nI n, nI i).2) 3 = nI (F i) := by
      show gI h (54 + 3 * ix (nI i)) 3 = _
      rw [ix_n (by omega)]; exact f2
    rw [e]
    refine ⟨fun c y ey => ?_, fun c y ey z ez => ?_⟩
    · have h0 : F i = 0 := (nI_eq (a := F i) (b := 0) (by omega) (by omega)).mp c
      have ey : y = nI i + 1 := ey
      rw [← nI_succ] at ey
      subst ey
      rw [h0, Nat.add_zero] at hx
      exact hx
    · have h1 : F i = 1 := by
        have : ¬ F i = 0 := fun q => c (by rw [q]; rfl)
        omega
      have ey : y = nI n + 1 := ey
      have ez : z = nI i + 1 := ez
      rw [← nI_succ] at ey ez
      subst ey ez
      rw [h1] at hx
      exact hx
  refine one 0 0 (by omega) (one 1 _ (by omega) (one 2 _ (by omega) ?_))
  apply hX
  refine ⟨fun _ => ?_, fun c => absurd (show (3 : Int32) ≤ nI 3 by decide) c⟩
  show Q (nI (0 + F 0 + F 1 + F 2))
  rw [Nat.zero_add]
  exact hq
theorem m_slots {h : hp} {F : Nat → Nat} {Q : Int32 → Prop} (hF : ∀ i, i < 3 → F i ≤ 1 ∧ gI h 45 i = nI (F i)) (hq : Q (slV F)) : vp_in 0 3 ∧ (((gI h 45 (ix 0)) = 0 → (w_X12_count_148 Q h 0)) ∧ (¬ ((gI h 45 (ix 0)) = 0) → (w_X12_count_148 Q h 1))) := by
  have f0 := hF 0 (by omega)
  have f1 := hF 1 (by omega)
  have f2 := hF 2 (by omega)
  have i0 : ix 0 = 0 := by decide
  have i1 : ix 1 = 1 := by decide
  have i2 : ix 2 = 2 := by decide
  have z : ∀ n : Nat, n ≤ 1 → (nI n = 0 ↔ n = 0) := fun n hn => nI_eq (a := n) (b := 0) (by omega) (by omega)
  unfold slV at hq
  have k3 : ∀ (a b : Nat), a = F 0 → b = F 1 → w_X12_count_162 Q h (nI b) (nI a) := by
    intro a b ea eb
    unfold w_X12_count_162
    rw [i2, f2.2, z _ f2.1]
    refine ⟨by unfold vp_in; decide, fun c => ?_, fun c => ?_⟩
    · rw [show nI a + nI b + 0 = nI (F 0 + F 1 + F 2) from by rw [nI_add, show (0 : Int32) = nI 0 from rfl, nI_add, ea, eb, c]]
      exact hq
    · have c1 : F 2 = 1 := by omega
      rw [show nI a + nI b + 1 = nI (F 0 + F 1 + F 2) from by rw [nI_add, show (1 : Int32) = nI 1 from rfl, nI_add, ea, eb, c1]]
      exact hq
  have k2 : ∀ a : Nat, a = F 0 → w_X12_count_148 Q h (nI a) := by
    intro a ea
    unfold w_X12_count_148
    rw [i1, f1.2, z _ f1.1]
    exact ⟨by unfold vp_in; decide, fun c => k3 a 0 ea c.symm, fun c => k3 a 1 ea (by omega)⟩
  rw [i0, f0.2, z _ f0.1]
  exact ⟨by unfold vp_in; decide, fun c => k2 0 c.symm, fun c => k2 1 (by omega)⟩
/-! count, by its twelve figures V -/
def countV (V : Nat → Int32) (x : Int32) : Int32 := if 0 ≤ x.toInt ∧ x.toInt ≤ 11 then V x.toInt.toNat else -1
theorem countV_n {V : Nat → Int32} {k : Nat} (hk : k ≤ 11) : countV V (nI k) = V k := by
  have e := n_toInt (n := k) (by omega)
  unfold countV
  rw [e, if_pos (by omega)]
  rfl
theorem countV_o {V : Nat → Int32} {x : Int32} (c : x.toInt < 0 ∨ 11 < x.toInt) : countV V x = -1 := by
  unfold countV
  rw [if_neg (by omega)]
theorem c_count {h : hp} {o : Nat} {F : Nat → Nat} {V : Nat → Int32} {x : Int32} {Q : Int32 → Prop} (t : cAt h o) (v0 : gI h o 0 = V 0) (v1 : gI h (o + 9) 0 = V 1) (v2 : gI h (o + 15) 0 = V 2) (v3 : gI h (o + 9) 1 = V 3) (v4 : gI h o 7 = V 4) (v5 : gI h o 8 = V 5) (v6 : gI h 0 1 = V 6) (v7 : gI h 51 0 = V 7) (hF : ∀ i, i < 3 → F i ≤ 1 ∧ gI h (54 + 3 * i) 3 = nI (F i)) (v8 : slV F = V 8) (v9 : gI h o 9 = V 9) (v10 : gI h 0 7 = V 10) (v11 : gI h 0 8 = V 11) (hq : Q (countV V x)) : w_X11_count h x Q := by
  unfold w_X11_count w_X11_count_0
  intro sw esw
  subst esw
  have q : ∀ k : Nat, k ≤ 11 → sw = nI k → Q (V k) := fun k hk e => by
    rw [e, countV_n hk] at hq
    exact hq
  rw [t.1, v0, v1, v2, v3, v4, v5, v6, v7, v9, v10, v11]
  exact ⟨fun c => ⟨t.2, q 0 (by omega) c⟩, fun c => ⟨t.2, q 1 (by omega) c⟩, fun c => ⟨t.2, q 2 (by omega) c⟩, fun c => ⟨t.2, q 3 (by omega) c⟩, fun c => ⟨t.2, q 4 (by omega) c⟩, fun c => ⟨t.2, q 5 (by omega) c⟩, fun c => q 6 (by omega) c, fun c => q 7 (by omega) c, fun c => c_slots hF (by rw [v8]; exact q 8 (by omega) c), fun c => ⟨t.2, q 9 (by omega) c⟩, fun c => q 10 (by omega) c, fun c => q 11 (by omega) c, fun c => by rw [countV_o c] at hq; exact hq⟩
theorem m_count {h : hp} {s : Nat} {F : Nat → Nat} {V : Nat → Int32} {x : Int32} {Q : Int32 → Prop} (t : mAt h s) (v0 : gI h 9 s = V 0) (v1 : gI h 13 s = V 1) (v2 : gI h 17 s = V 2) (v3 : gI h 12 s = V 3) (v4 : gI h 19 s = V 4) (v5 : gI h 20 s = V 5) (v6 : gI h 0 2 = V 6) (v7 : gI h 0 57 = V 7) (hF : ∀ i, i < 3 → F i ≤ 1 ∧ gI h 45 i = nI (F i)) (v8 : slV F = V 8) (v9 : gI h 21 s = V 9) (v10 : 0 ≤ gI h 0 61 → gI h 0 61 = V 10) (v10' : ¬ 0 ≤ gI h 0 61 → (-2) = V 10) (v11 : gI h 0 62 = V 11) (hq : Q (countV V x)) : w_X12_count h x Q := by
  unfold w_X12_count w_X12_count_0
  intro sw esw
  subst esw
  have hs := t.2
  have q : ∀ k : Nat, k ≤ 11 → sw = nI k → Q (V k) := fun k hk e => by
    rw [e, countV_n hk] at hq
    exact hq
  have hin : vp_in (nI s) 2 := in_n hs (by omega)
  rw [t.1, ix_n (by omega), v0, v1, v2, v3, v4, v5, v6, v7, v9, v11]
  exact ⟨fun c => ⟨hin, q 0 (by omega) c⟩, fun c => ⟨hin, q 1 (by omega) c⟩, fun c => ⟨hin, q 2 (by omega) c⟩, fun c => ⟨hin, q 3 (by omega) c⟩, fun c => ⟨hin, q 4 (by omega) c⟩, fun c => ⟨hin, q 5 (by omega) c⟩, fun c => q 6 (by omega) c, fun c => q 7 (by omega) c, fun c => m_slots hF (by rw [v8]; exact q 8 (by omega) c), fun c => ⟨hin, q 9 (by omega) c⟩, fun c => ⟨fun d => by rw [v10 d]; exact q 10 (by omega) c, fun d => by rw [v10' d]; exact q 10 (by omega) c⟩, fun c => q 11 (by omega) c, fun c => by rw [countV_o c] at hq; exact hq⟩
