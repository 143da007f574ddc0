/-! slots -/
def is3 (x : Int32) : Prop := 0 ≤ x.toInt ∧ x.toInt < 3
theorem c_isSlot {x : Int32} {Q : Int32 → Prop} (hq1 : is3 x → Q 1) (hq0 : ¬ is3 x → Q 0) : w_X11_isSlot x Q := by
  unfold w_X11_isSlot w_X11_isSlot_0
  have z0 : (0 : Int32).toInt = 0 := rfl
  have z3 : (3 : Int32).toInt = 3 := rfl
  refine ⟨fun c => hq0 (fun q => ?_), fun c => ⟨fun c2 => hq0 (fun q => ?_), fun c2 => hq1 ?_⟩⟩
  · rw [t_lt, z0] at c; have := q.1; omega
  · rw [t_le, z3] at c2; have := q.2; omega
  · rw [t_lt, z0] at c; rw [t_le, z3] at c2; exact ⟨by omega, by omega⟩
theorem c_hold {h : hp} {x : Int32} {Q : Int32 → hp → Prop} (hq1 : ∀ i : Nat, i < 3 → x = nI i → Q 1 (sI (cCopy (54 + 3 * i) 51 h) (54 + 3 * i) 3 1)) (hq0 : ¬ is3 x → Q 0 h) : w_X11_hold h x Q := by
  unfold w_X11_hold w_X11_hold_0
  refine c_isSlot (fun z => ⟨fun _ => ?_, fun c => absurd c (by decide)⟩) (fun z => ⟨fun c => absurd rfl c, fun _ => hq0 z⟩)
  obtain ⟨ex, hx⟩ := n_of (x := x) z.1
  have h3 : x.toInt.toNat < 3 := by have := z.2; omega
  have hq := hq1 _ h3 ex
  generalize x.toInt.toNat = i at ex hx h3 hq
  subst ex
  rw [ix_n hx]
  refine ⟨in_n h3 hx, c_copy ⟨in_n h3 hx, fun h7 e7 => ?_⟩⟩
  subst e7
  exact hq
theorem c_restore {h : hp} {x : Int32} {Q : Int32 → hp → Prop} (hq1 : ∀ i : Nat, i < 3 → x = nI i → ¬ gI h (54 + 3 * i) 3 = 0 → Q 1 (cCopy 51 (54 + 3 * i) h)) (hq2 : ∀ i : Nat, i < 3 → x = nI i → gI h (54 + 3 * i) 3 = 0 → Q 0 h) (hq0 : ¬ is3 x → Q 0 h) : w_X11_restore h x Q := by
  unfold w_X11_restore w_X11_restore_0
  refine c_isSlot (fun z => ⟨fun c => absurd c (by decide), fun _ => ?_⟩) (fun z => ⟨fun _ => hq0 z, fun c => absurd rfl c⟩)
  obtain ⟨ex, hx⟩ := n_of (x := x) z.1
  have h3 : x.toInt.toNat < 3 := by have := z.2; omega
  have hq := hq1 _ h3 ex
  have hq' := hq2 _ h3 ex
  generalize x.toInt.toNat = i at ex hx h3 hq hq'
  subst ex
  rw [ix_n hx]
  exact ⟨in_n h3 hx, fun c => ⟨in_n h3 hx, c_copy (hq c)⟩, fun c => hq' c⟩
/-- the reference's slot i -/
def mSlot (i : Nat) (h : hp) (D : Nat) (A : Nat → Int32) (B : Nat → Int64) : Prop := gI h 46 i = nI D ∧ ∀ k, k < D → gI h 47 (20 * i + k) = A k ∧ gL h 48 (20 * i + k) = B k
def mPut (i : Nat) (h : hp) : Nat → hp
  | 0 => h
  | k + 1 => sL (sI (mPut i h k) 47 (20 * i + k) (gI h 38 k)) 48 (20 * i + k) (gL h 39 k)
theorem mPut_I (i : Nat) (h : hp) : ∀ (n a j : Nat), gI (mPut i h n) a j = if a = 47 ∧ 20 * i ≤ j ∧ j < 20 * i + n then gI h 38 (j - 20 * i) else gI h a j
  | 0, a, j => by rw [if_neg (by omega)]; rfl
  | n + 1, a, j => by
    show gI (sL (sI (mPut i h n) 47 (20 * i + n) (gI h 38 n)) 48 (20 * i + n) (gL h 39 n)) a j = _
    rw [gI_sL, gI_sI, mPut_I i h n]
    by_cases e : a = 47 ∧ j = 20 * i + n
    · rw [if_pos e, if_pos ⟨e.1, by omega, by omega⟩, show j - 20 * i = n from by omega]
    · rw [if_neg e]
      by_cases e2 : a = 47 ∧ 20 * i ≤ j ∧ j < 20 * i + n
      · rw [if_pos e2, if_pos ⟨e2.1, by omega, by omega⟩]
      · rw [if_neg e2, if_neg (fun q => e2 ⟨q.1, q.2.1, by have : ¬ j = 20 * i + n := fun z => e ⟨q.1, z⟩; omega⟩)]
theorem mPut_L (i : Nat) (h : hp) : ∀ (n a j : Nat), gL (mPut i h n) a j = if a = 48 ∧ 20 * i ≤ j ∧ j < 20 * i + n then gL h 39 (j - 20 * i) else gL h a j
  | 0, a, j => by rw [if_neg (by omega)]; rfl
  | n + 1, a, j => by
    show gL (sL (sI (mPut i h n) 47 (20 * i + n) (gI h 38 n)) 48 (20 * i + n) (gL h 39 n)) a j = _
    rw [gL_sL, gL_sI, mPut_L i h n]
    by_cases e : a = 48 ∧ j = 20 * i + n
    · rw [if_pos e, if_pos ⟨e.1, by omega, by omega⟩, show j - 20 * i = n from by omega]
    · rw [if_neg e]
      by_cases e2 : a = 48 ∧ 20 * i ≤ j ∧ j < 20 * i + n
      · rw [if_pos e2, if_pos ⟨e2.1, by omega, by omega⟩]
      · rw [if_neg e2, if_neg (fun q => e2 ⟨q.1, q.2.1, by have : ¬ j = 20 * i + n := fun z => e ⟨q.1, z⟩; omega⟩)]
theorem e20 {i k : Nat} (hi : i < 3) (hk : k < 20) : 20 * nI i + nI k = nI (20 * i + k) := by
  rw [show (20 : Int32) = nI 20 from rfl, nI_mul (by omega) (by omega) (by omega), nI_add]
def mHold (i : Nat) (h : hp) : hp := mPut i (sI (sI h 45 i 1) 46 i (gI h 0 57)) 20
theorem m_hold {h : hp} {x : Int32} {Q : Int32 → hp → Prop} (hq1 : ∀ i : Nat, i < 3 → x = nI i → Q 1 (mHold i h)) (hq0 : ¬ is3 x → Q 0 h) : w_X12_hold h x Q := by
  unfold w_X12_hold w_X12_hold_0
  have z0 : (0 : Int64).toInt = 0 := rfl
  have z2 : (2 : Int64).toInt = 2 := rfl
  refine m_in (fun c => ⟨fun _ => ?_, fun q => absurd q (by decide)⟩) (fun c => ⟨fun q => absurd rfl q, fun _ => hq0 (fun q => c ?_)⟩)
  · rw [tL_int, z0, z2] at c
    obtain ⟨ex, hx⟩ := n_of (x := x) c.1
    have h3 : x.toInt.toNat < 3 := by omega
    have hq := hq1 _ h3 ex
    generalize x.toInt.toNat = i at ex hx h3 hq
    subst ex
    rw [ix_n hx]
    refine ⟨in_n h3 hx, fun h4 e4 => ⟨in_n h3 hx, fun h5 e5 => ?_⟩⟩
    have e5' : h5 = sI (sI h 45 i 1) 46 i (gI h 0 57) := by
      rw [e5, e4, gI_o _ _ (by decide)]
      rfl
    unfold mHold at hq
    rw [← e5'] at hq
    clear e5 e5' e4
    unfold w_X12_hold_33
    intro X hX
    have key : ∀ n k : Nat, n + k = 20 → X (nI k, mPut i h5 k) := by
      intro n
      induction n with
      | zero =>
        intro k hk
        have ek : k = 20 := by omega
        subst ek
        apply hX
        exact ⟨fun _ => hq, fun c => absurd (show (20 : Int32) ≤ nI 20 by decide) c⟩
      | succ n ih =>
        intro k hk
        apply hX
        refine ⟨fun c => absurd c (nI_ge (b := 20) (by omega) (by omega)), fun _ => ⟨in_n (by omega) (by omega), ?_, fun h7 e7 => ⟨in_n (by omega) (by omega), ?_, fun h8 e8 y ey => ?_⟩⟩⟩
        · show vp_in (20 * nI i + nI k) 60
          rw [e20 h3 (by omega)]
          exact in_n (by omega) (by omega)
        · show vp_in (20 * nI i + nI k) 60
          rw [e20 h3 (by omega)]
          exact in_n (by omega) (by omega)
        · have e7 : h7 = sI (mPut i h5 k) 47 (ix (20 * nI i + nI k)) (gI (mPut i h5 k) 38 (ix (nI k))) := e7
          have e8 : h8 = sL h7 48 (ix (20 * nI i + nI k)) (gL h7 39 (ix (nI k))) := e8
          have ey : y = nI k + 1 := ey
          rw [e20 h3 (by omega), ix_n (by omega), ix_n (by omega), mPut_I, if_neg (by omega)] at e7
          rw [e20 h3 (by omega), ix_n (by omega), ix_n (by omega), e7, gL_sI, mPut_L, if_neg (by omega)] at e8
          rw [← nI_succ] at ey
          subst ey
          have := ih (k + 1) (by omega)
          rw [e8]
          exact this
    exact key 20 0 rfl
  · rw [tL_int, z0, z2]; have := q.1; have := q.2; omega
theorem mSlot_hold {i D : Nat} {h : hp} {A : Nat → Int32} {B : Nat → Int64} (hD : D ≤ 20) (a : mTold h D A B) : mSlot i (mHold i h) D A B := by
  unfold mHold
  refine ⟨?_, fun k hk => ⟨?_, ?_⟩⟩
  · rw [mPut_I, if_neg (by omega), gI_at]; exact a.1
  · rw [mPut_I, if_pos ⟨rfl, by omega, by omega⟩, show 20 * i + k - 20 * i = k from by omega, gI_o _ _ (by decide), gI_o _ _ (by decide)]
    exact (a.2 k hk).1
  · rw [mPut_L, if_pos ⟨rfl, by omega, by omega⟩, show 20 * i + k - 20 * i = k from by omega]
    exact (a.2 k hk).2
