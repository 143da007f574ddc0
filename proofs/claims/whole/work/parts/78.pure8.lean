/-! number: its loops -/
def isNu (R : Nat) (S : Nat → Nat) (N : Nat → Nat → Int32) (x : Int32) : Prop := isR R x ∧ 0 < S x.toInt.toNat ∧ S x.toInt.toNat ≤ 4 ∧ ¬ isB S N x.toInt.toNat
theorem c_number {h : hp} {o R : Nat} {S : Nat → Nat} {N : Nat → Nat → Int32} {x : Int32} {Q : Int64 → Prop} (t : cAt h o) (a : cRows o h R S N) (ok : okRows R S N) (hq0 : ¬ isR R x → Q (-1)) (hq1 : isR R x → ¬ isNu R S N x → Q (-2)) (hq2 : isNu R S N x → Q (numberV S N x.toInt.toNat)) : w_X11_number h x Q := by
  unfold w_X11_number w_X11_number_0
  have hR := ok.1
  refine c_isRow t a ok (fun z => ⟨fun _ => ⟨by rw [t.1]; exact t.2, ?_⟩, fun c => absurd c (by decide)⟩) (fun z => ⟨fun c => absurd rfl c, fun _ => hq0 z⟩)
  unfold isNu at hq1 hq2
  have hz := z
  obtain ⟨r, hr, rfl, er⟩ := isR_n z
  rw [er] at hq1 hq2
  have hS := (ok.2 r hr).1
  refine ⟨in_n (by omega) (by omega), fun y ey => ?_⟩
  rw [t.1, ix_n (by omega), (a.2 r hr).1] at ey
  subst ey
  refine ⟨fun c => hq1 hz (fun q => ?_), fun c => ⟨fun c2 => hq1 hz (fun q => ?_), fun c2 => ⟨by rw [t.1]; exact t.2, ?_⟩⟩⟩
  · have := (nI_eq (a := S r) (b := 0) (by omega) (by omega)).mp c
    omega
  · have := (nI_ltI (a := 4) (b := S r) (by omega) (by omega)).mp c2
    omega
  · have c0 : ¬ S r = 0 := fun e => c (by rw [e]; rfl)
    have c4 : ¬ 4 < S r := fun e => c2 ((nI_ltI (a := 4) (b := S r) (by omega) (by omega)).mpr e)
    rw [t.1]
    refine c_isBelow a ok hr (fun b => ⟨fun q => absurd q (by decide), fun _ => hq1 hz (fun q => q.2.2.2 b)⟩) (fun b => ⟨fun _ => ⟨t.2, ?_⟩, fun q => absurd rfl q⟩)
    have hq := hq2 ⟨hz, by omega, by omega, b⟩
    refine c_numberAt (k := 0) a ok hr (by omega) (fun v ev => ?_)
    unfold numV at ev
    rw [if_pos ⟨hr, by omega⟩] at ev
    subst ev
    unfold w_X11_number_60
    intro X hX
    have key : ∀ (n : Nat) (v : Int64), n < S r → Q (nuF (N r) (S r) n v) → X (v, nI (S r - n)) := by
      intro n
      induction n with
      | zero =>
        intro v _ hq
        apply hX
        exact ⟨fun _ => hq, fun c => absurd (nI_le (Nat.le_refl _) (by omega)) c⟩
      | succ n ih =>
        intro v hn hq
        apply hX
        refine ⟨fun c => absurd c (nI_ge (by omega) (by omega)), fun _ => ⟨by rw [t.1]; exact t.2, ?_⟩⟩
        show w_X7_numberAt (gR h 0) h (nI r) (nI (S r - (n + 1))) _
        rw [t.1]
        refine c_numberAt a ok hr (by omega) (c_paired ?_)
        intro y ey
        have ey : y = nI (S r - (n + 1)) + 1 := ey
        rw [← nI_succ, show S r - (n + 1) + 1 = S r - n from by omega] at ey
        subst ey
        refine ih _ (by omega) ?_
        unfold numV
        rw [if_pos ⟨hr, by omega⟩]
        exact hq
    have := key (S r - 1) (N r 0).toInt64 (by omega) hq
    rw [show S r - (S r - 1) = 1 from by omega] at this
    exact this
def bd : Nat → Int
  | 0 => 99
  | 1 => 19800
  | _ => 197995149
theorem bd_le : ∀ j, bd j ≤ 200000000
  | 0 => by decide
  | 1 => by decide
  | _ + 2 => by show (197995149 : Int) ≤ 200000000; decide
theorem m_number {h : hp} {s R : Nat} {S : Nat → Nat} {N : Nat → Nat → Int32} {x : Int32} {Q : Int64 → Prop} (t : mAt h s) (a : mRows s h R S N) (ok : okRows R S N) (hq0 : ¬ isR R x → Q (-1)) (hq1 : isR R x → ¬ isNu R S N x → Q (-2)) (hq2 : isNu R S N x → Q (numberV S N x.toInt.toNat)) : w_X12_number h x Q := by
  unfold w_X12_number w_X12_number_0
  have hR := ok.1
  refine m_isRow t a ok (fun z => ⟨fun _ => ?_, fun c => absurd c (by decide)⟩) (fun z => ⟨fun c => absurd rfl c, fun _ => hq0 z⟩)
  unfold isNu at hq1 hq2
  have hz := z
  obtain ⟨r, hr, rfl, er⟩ := isR_n z
  rw [er] at hq1 hq2
  have hS := (ok.2 r hr).1
  refine m_longAt t a ok hr ⟨fun c2 => hq1 hz (fun q => ?_), fun c2 => m_longAt t a ok hr ⟨fun c => hq1 hz (fun q => ?_), fun c => ?_⟩⟩
  · have := (nI_ltI (a := 4) (b := S r) (by omega) (by omega)).mp c2
    omega
  · have := (nI_eq (a := S r) (b := 0) (by omega) (by omega)).mp c
    omega
  · have c0 : ¬ S r = 0 := fun e => c (by rw [e]; rfl)
    have c4 : ¬ 4 < S r := fun e => c2 ((nI_ltI (a := 4) (b := S r) (by omega) (by omega)).mpr e)
    refine m_isBelow t a ok hr (fun b => ⟨fun q => absurd q (by decide), fun _ => hq1 hz (fun q => q.2.2.2 b)⟩) (fun b => ⟨fun _ => ?_, fun q => absurd rfl q⟩)
    have hq := hq2 ⟨hz, by omega, by omega, b⟩
    have hN : ∀ k, k < S r → 0 ≤ (N r k).toInt ∧ (N r k).toInt ≤ 99 := fun k hk => by
      have h1 := (ok.2 r hr).2 k hk
      have h2 : ¬ (N r k).toInt < 0 := fun q => b ⟨k, hk, q⟩
      omega
    refine m_at (k := 0) t a ok hr (by omega) (fun v ev => ?_)
    subst ev
    unfold w_X12_number_52
    intro X hX
    have key : ∀ (n j : Nat) (v : Int64), n + j + 1 = S r → 0 ≤ v.toInt → v.toInt ≤ (if j < 3 then bd j else v.toInt) → Q (nuF (N r) (S r) n v) → X (v, nI (S r - n)) := by
      intro n
      induction n with
      | zero =>
        intro j v _ _ _ hq
        apply hX
        exact m_longAt t a ok hr ⟨fun _ => hq, fun c => absurd (nI_le (Nat.le_refl _) (by omega)) c⟩
      | succ n ih =>
        intro j v hn hv hv2 hq
        rw [if_pos (by omega)] at hv2
        apply hX
        refine m_longAt t a ok hr ⟨fun c => absurd c (nI_ge (by omega) (by omega)), fun _ => ?_⟩
        show w_X12_at h (nI r) (nI (S r - (n + 1))) _
        have hk := hN (S r - (n + 1)) (by omega)
        have hp' := prV_in (y := N r (S r - (n + 1))) hv hv2 (bd_le j) hk.1 hk.2
        have hbj := bd_le j
        refine m_at t a ok hr (by omega) (m_paired ?_ ?_ ?_)
        · rw [hp'.1]; omega
        · rw [hp'.1]; omega
        intro y ey
        have ey : y = nI (S r - (n + 1)) + 1 := ey
        rw [← nI_succ, show S r - (n + 1) + 1 = S r - n from by omega] at ey
        subst ey
        refine ih (j + 1) _ (by omega) hp'.2.1 ?_ hq
        by_cases hj : j + 1 < 3
        · rw [if_pos hj]
          refine Int.le_trans hp'.2.2 ?_
          match j, hj with
          | 0, _ => decide
          | 1, _ => decide
        · rw [if_neg hj]
          exact Int.le_refl _
    have h0 := hN 0 (by omega)
    have := key (S r - 1) 0 (N r 0).toInt64 (by omega) (by rw [tL_int]; omega) (by rw [if_pos (by omega), tL_int]; exact h0.2) hq
    rw [show S r - (S r - 1) = 1 from by omega] at this
    exact this
