/-! restore -/
def mTake (i : Nat) (h : hp) : Nat → hp
  | 0 => h
  | k + 1 => sL (sI (mTake i h k) 38 k (gI h 47 (20 * i + k))) 39 k (gL h 48 (20 * i + k))
theorem mTake_I (i : Nat) (h : hp) : ∀ (n a j : Nat), gI (mTake i h n) a j = if a = 38 ∧ j < n then gI h 47 (20 * i + j) else gI h a j
  | 0, a, j => by rw [if_neg (by omega)]; rfl
  | n + 1, a, j => by
    show gI (sL (sI (mTake i h n) 38 n (gI h 47 (20 * i + n))) 39 n (gL h 48 (20 * i + n))) a j = _
    rw [gI_sL, gI_sI, mTake_I i h n]
    by_cases e : a = 38 ∧ j = n
    · rw [if_pos e, if_pos ⟨e.1, by omega⟩, e.2]
    · rw [if_neg e]
      by_cases e2 : a = 38 ∧ j < n
      · rw [if_pos e2, if_pos ⟨e2.1, by omega⟩]
      · rw [if_neg e2, if_neg (fun q => e2 ⟨q.1, by have : ¬ j = n := fun z => e ⟨q.1, z⟩; omega⟩)]
theorem mTake_L (i : Nat) (h : hp) : ∀ (n a j : Nat), gL (mTake i h n) a j = if a = 39 ∧ j < n then gL h 48 (20 * i + j) else gL h a j
  | 0, a, j => by rw [if_neg (by omega)]; rfl
  | n + 1, a, j => by
    show gL (sL (sI (mTake i h n) 38 n (gI h 47 (20 * i + n))) 39 n (gL h 48 (20 * i + n))) a j = _
    rw [gL_sL, gL_sI, mTake_L i h n]
    by_cases e : a = 39 ∧ j = n
    · rw [if_pos e, if_pos ⟨e.1, by omega⟩, e.2]
    · rw [if_neg e]
      by_cases e2 : a = 39 ∧ j < n
      · rw [if_pos e2, if_pos ⟨e2.1, by omega⟩]
      · rw [if_neg e2, if_neg (fun q => e2 ⟨q.1, by have : ¬ j = n := fun z => e ⟨q.1, z⟩; omega⟩)]
def mRest (i : Nat) (h : hp) : hp := mTake i (sI h 0 57 (gI h 46 i)) 20
theorem m_restore {h : hp} {x : Int32} {Q : Int32 → hp → Prop} (hq1 : ∀ i : Nat, i < 3 → x = nI i → ¬ gI h 45 i = 0 → Q 1 (mRest i h)) (hq2 : ∀ i : Nat, i < 3 → x = nI i → gI h 45 i = 0 → Q 0 h) (hq0 : ¬ is3 x → Q 0 h) : w_X12_restore h x Q := by
  unfold w_X12_restore w_X12_restore_0
  have z0 : (0 : Int64).toInt = 0 := rfl
  have z2 : (2 : Int64).toInt = 2 := rfl
  refine m_in (fun c => ⟨fun q => absurd q (by decide), fun _ => ?_⟩) (fun c => ⟨fun _ => hq0 (fun q => c ?_), fun q => absurd rfl q⟩)
  · rw [tL_int, z0, z2] at c
    obtain ⟨ex, hx⟩ := n_of (x := x) c.1
    have h3 : x.toInt.toNat < 3 := by omega
    have hq := hq1 _ h3 ex
    have hq' := hq2 _ h3 ex
    generalize x.toInt.toNat = i at ex hx h3 hq hq'
    subst ex
    rw [ix_n hx]
    refine ⟨in_n h3 hx, fun c4 => ⟨in_n h3 hx, fun h5 e5 => ?_⟩, fun c4 => hq' c4⟩
    have hq := hq c4
    unfold mRest at hq
    rw [← e5] at hq
    clear e5
    unfold w_X12_restore_35
    intro X hX
    have key : ∀ n k : Nat, n + k = 20 → X (nI k, mTake i h5 k) := by
      intro n
      induction n with
      | zero =>
        intro k hk
        have ek : k = 20 := by omega
        subst ek
        apply hX
        exact ⟨fun _ => hq, fun c => absurd (show (20 : Int32) ≤ nI 20 by decide) c⟩
      | succ n ih =>
        intro k hk
        apply hX
        have hin : vp_in (20 * nI i + nI k) 60 := by
          rw [e20 h3 (by omega)]
          exact in_n (by omega) (by omega)
        refine ⟨fun c => absurd c (nI_ge (b := 20) (by omega) (by omega)), fun _ => ⟨hin, in_n (by omega) (by omega), fun h7 e7 => ⟨hin, in_n (by omega) (by omega), fun h8 e8 y ey => ?_⟩⟩⟩
        have e7 : h7 = sI (mTake i h5 k) 38 (ix (nI k)) (gI (mTake i h5 k) 47 (ix (20 * nI i + nI k))) := e7
        have e8 : h8 = sL h7 39 (ix (nI k)) (gL h7 48 (ix (20 * nI i + nI k))) := e8
        have ey : y = nI k + 1 := ey
        rw [e20 h3 (by omega), ix_n (by omega), ix_n (by omega), mTake_I, if_neg (by omega)] at e7
        rw [e20 h3 (by omega), ix_n (by omega), ix_n (by omega), e7, gL_sI, mTake_L, if_neg (by omega)] at e8
        rw [← nI_succ] at ey
        subst ey
        have := ih (k + 1) (by omega)
        rw [e8]
        exact this
    exact key 20 0 rfl
  · rw [tL_int, z0, z2]; have := q.1; have := q.2; omega
theorem mTold_restore {i D : Nat} {h : hp} {A : Nat → Int32} {B : Nat → Int64} (hD : D ≤ 20) (a : mSlot i h D A B) : mTold (mRest i h) D A B := by
  unfold mRest
  refine ⟨?_, fun k hk => ⟨?_, ?_⟩⟩
  · rw [mTake_I, if_neg (by omega), gI_at]; exact a.1
  · rw [mTake_I, if_pos ⟨rfl, by omega⟩, gI_o _ _ (by decide)]
    exact (a.2 k hk).1
  · rw [mTake_L, if_pos ⟨rfl, by omega⟩]
    exact (a.2 k hk).2
/-! place -/
theorem c_place {h : hp} {Q : Int32 → Prop} (hq : Q (gI h 0 2)) : w_X11_place h Q := hq
theorem m_place {h : hp} {Q : Int32 → Prop} (hq : Q (gI h 0 17)) : w_X12_place h Q := hq
