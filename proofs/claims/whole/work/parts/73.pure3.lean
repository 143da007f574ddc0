/-! degree, plus, times, meets -/
def dgF (g : Nat → Int32) : Nat → Int32
  | 0 => -2
  | k + 1 => if g k = 0 then dgF g k else nI k
def degV (R : Nat) (S : Nat → Nat) (N : Nat → Nat → Int32) (x : Int32) : Int32 := if isR R x then dgF (N x.toInt.toNat) (S x.toInt.toNat) else -1
theorem c_degree {h : hp} {o R : Nat} {S : Nat → Nat} {N : Nat → Nat → Int32} {x : Int32} {Q : Int32 → Prop} (t : cAt h o) (a : cRows o h R S N) (ok : okRows R S N) (hq : Q (degV R S N x)) : w_X11_degree h x Q := by
  unfold w_X11_degree w_X11_degree_0
  unfold degV at hq
  have hR := ok.1
  refine c_isRow t a ok (fun z => ⟨fun _ => ⟨by rw [t.1]; exact t.2, ?_⟩, fun c => absurd c (by decide)⟩) (fun z => ⟨fun c => absurd rfl c, fun _ => ?_⟩)
  · rw [if_pos z] at hq
    obtain ⟨r, hr, rfl, er⟩ := isR_n z
    rw [er] at hq
    have hS := (ok.2 r hr).1
    refine ⟨in_n (by omega) (by omega), fun y ey => ?_⟩
    rw [t.1, ix_n (by omega), (a.2 r hr).1] at ey
    subst ey
    unfold w_X11_degree_22
    intro X hX
    have key : ∀ k, k ≤ S r → Q (dgF (N r) k) → X (nI k - 1) := by
      intro k
      induction k with
      | zero =>
        intro _ hq
        apply hX
        exact ⟨fun _ => hq, fun c => absurd (show (nI 0 - 1) < 0 by decide) c⟩
      | succ k ih =>
        intro hk hq
        rw [nI_pred]
        unfold dgF at hq
        apply hX
        refine ⟨fun c => absurd c (nI_pos (by omega)), fun _ => ⟨by rw [t.1]; exact t.2, ?_⟩⟩
        rw [t.1]
        refine c_numberAt a ok hr (by omega) ?_
        unfold numV
        rw [if_pos ⟨hr, by omega⟩]
        refine ⟨fun c x ex => ?_, fun c => ?_⟩
        · rw [if_pos c] at hq
          rw [m1] at ex
          subst ex
          exact ih (by omega) hq
        · rw [if_neg c] at hq
          exact hq
    exact key (S r) (Nat.le_refl _) hq
  · rw [if_neg z] at hq
    exact hq
theorem m_degree {h : hp} {s R : Nat} {S : Nat → Nat} {N : Nat → Nat → Int32} {x : Int32} {Q : Int32 → Prop} (t : mAt h s) (a : mRows s h R S N) (ok : okRows R S N) (hq : Q (degV R S N x)) : w_X12_degree h x Q := by
  unfold w_X12_degree w_X12_degree_0
  unfold degV at hq
  refine m_isRow t a ok (fun z => ⟨fun _ => ?_, fun c => absurd c (by decide)⟩) (fun z => ⟨fun c => absurd rfl c, fun _ => ?_⟩)
  · rw [if_pos z] at hq
    obtain ⟨r, hr, rfl, er⟩ := isR_n z
    rw [er] at hq
    have hS := (ok.2 r hr).1
    refine m_longAt t a ok hr (fun y ey => ?_)
    subst ey
    unfold w_X12_degree_18
    intro X hX
    have key : ∀ k, k ≤ S r → Q (dgF (N r) k) → X (nI k - 1) := by
      intro k
      induction k with
      | zero =>
        intro _ hq
        apply hX
        exact ⟨fun _ => hq, fun c => absurd (show (nI 0 - 1) < 0 by decide) c⟩
      | succ k ih =>
        intro hk hq
        rw [nI_pred]
        unfold dgF at hq
        apply hX
        refine ⟨fun c => absurd c (nI_pos (by omega)), fun _ => m_at t a ok hr (by omega) ⟨fun c x ex => ?_, fun c => ?_⟩⟩
        · rw [if_pos c] at hq
          rw [m1] at ex
          subst ex
          exact ih (by omega) hq
        · rw [if_neg c] at hq
          exact hq
    exact key (S r) (Nat.le_refl _) hq
  · rw [if_neg z] at hq
    exact hq
abbrev isP (R : Nat) (x y k : Int32) : Prop := isR R x ∧ isR R y ∧ 0 ≤ k.toInt ∧ k.toInt ≤ 10
theorem c_isSumPlace {h : hp} {o R : Nat} {S : Nat → Nat} {N : Nat → Nat → Int32} {x y k : Int32} {Q : Int32 → Prop} (t : cAt h o) (a : cRows o h R S N) (ok : okRows R S N) (hq1 : isP R x y k → Q 1) (hq0 : ¬ isP R x y k → Q 0) : w_X11_isSumPlace h x y k Q := by
  unfold w_X11_isSumPlace w_X11_isSumPlace_0
  refine c_isRow t a ok (fun z => ⟨fun c => absurd c (by decide), fun _ => ?_⟩) (fun z => ⟨fun _ => hq0 (fun q => z q.1), fun c => absurd rfl c⟩)
  refine c_isRow t a ok (fun z2 => ⟨fun c => absurd c (by decide), fun _ => ?_⟩) (fun z => ⟨fun _ => hq0 (fun q => z q.2.1), fun c => absurd rfl c⟩)
  refine c_within (fun c => ?_) (fun c => ?_)
  · rw [tL_int] at c
    exact ⟨fun q => absurd q (by decide), fun _ => hq1 ⟨z, z2, c⟩⟩
  · rw [tL_int] at c
    exact ⟨fun _ => hq0 (fun q => c q.2.2), fun q => absurd rfl q⟩
theorem m_areRows {h : hp} {s R : Nat} {S : Nat → Nat} {N : Nat → Nat → Int32} {x y k : Int32} {Q : Int32 → Prop} (t : mAt h s) (a : mRows s h R S N) (ok : okRows R S N) (hq1 : isP R x y k → Q 1) (hq0 : ¬ isP R x y k → Q 0) : w_X12_areRows h x y k Q := by
  unfold w_X12_areRows w_X12_areRows_0
  refine m_isRow t a ok (fun z => ⟨fun c => absurd c (by decide), fun _ => ?_⟩) (fun z => ⟨fun _ => hq0 (fun q => z q.1), fun c => absurd rfl c⟩)
  refine m_isRow t a ok (fun z2 => ⟨fun c => absurd c (by decide), fun _ => ?_⟩) (fun z => ⟨fun _ => hq0 (fun q => z q.2.1), fun c => absurd rfl c⟩)
  refine m_in (fun c => ?_) (fun c => ?_)
  · rw [tL_int] at c
    exact ⟨fun q => absurd q (by decide), fun _ => hq1 ⟨z, z2, c⟩⟩
  · rw [tL_int] at c
    exact ⟨fun _ => hq0 (fun q => c q.2.2), fun q => absurd rfl q⟩
theorem m_placeAt {h : hp} {s R : Nat} {S : Nat → Nat} {N : Nat → Nat → Int32} {r k : Nat} {Q : Int32 → Prop} (t : mAt h s) (a : mRows s h R S N) (ok : okRows R S N) (hr : r < R) (hk : k < 2147483648) (hq : Q (numV R S N r k)) : w_X12_placeAt h (nI r) (nI k) Q := by
  unfold w_X12_placeAt w_X12_placeAt_0
  have hS := (ok.2 r hr).1
  unfold numV at hq
  refine m_longAt t a ok hr ⟨fun c => ?_, fun c => ?_⟩
  · rw [nI_leI (by omega) (by omega)] at c
    rw [if_neg (by omega)] at hq
    exact hq
  · rw [nI_leI (by omega) (by omega)] at c
    rw [if_pos ⟨hr, by omega⟩] at hq
    exact m_at t a ok hr (by omega) hq
noncomputable def plusV (R : Nat) (S : Nat → Nat) (N : Nat → Nat → Int32) (x y k : Int32) : Int32 := if isR R x ∧ isR R y ∧ 0 ≤ k.toInt ∧ k.toInt ≤ 10 then numV R S N x.toInt.toNat k.toInt.toNat + numV R S N y.toInt.toNat k.toInt.toNat else -100000
theorem isP_n {R : Nat} {x y k : Int32} (z : isP R x y k) : ∃ r q j : Nat, r < R ∧ q < R ∧ j ≤ 10 ∧ x = nI r ∧ y = nI q ∧ k = nI j ∧ x.toInt.toNat = r ∧ y.toInt.toNat = q ∧ k.toInt.toNat = j := by
  obtain ⟨r, hr, er, er2⟩ := isR_n z.1
  obtain ⟨q, hq, eq, eq2⟩ := isR_n z.2.1
  have := z.2.2.2
  exact ⟨r, q, k.toInt.toNat, hr, hq, by omega, er, eq, (n_of z.2.2.1).1, er2, eq2, rfl⟩
theorem c_plus {h : hp} {o R : Nat} {S : Nat → Nat} {N : Nat → Nat → Int32} {x y k : Int32} {Q : Int32 → Prop} (t : cAt h o) (a : cRows o h R S N) (ok : okRows R S N) (hq : Q (plusV R S N x y k)) : w_X11_plus h x y k Q := by
  unfold w_X11_plus w_X11_plus_0
  unfold plusV at hq
  refine c_isSumPlace t a ok (fun z => ⟨fun _ => ⟨by rw [t.1]; exact t.2, ?_⟩, fun c => absurd c (by decide)⟩) (fun z => ⟨fun c => absurd rfl c, fun _ => ?_⟩)
  · rw [if_pos z] at hq
    obtain ⟨r, q, j, hr, hq', hj, ex, ey, ek, ex2, ey2, ek2⟩ := isP_n z
    rw [ex2, ey2, ek2] at hq
    rw [t.1, ex, ey, ek]
    exact c_numberAt a ok hr (by omega) ⟨t.2, c_numberAt a ok hq' (by omega) hq⟩
  · rw [if_neg z] at hq
    exact hq
theorem m_plus {h : hp} {s R : Nat} {S : Nat → Nat} {N : Nat → Nat → Int32} {x y k : Int32} {Q : Int32 → Prop} (t : mAt h s) (a : mRows s h R S N) (ok : okRows R S N) (hq : Q (plusV R S N x y k)) : w_X12_plus h x y k Q := by
  unfold w_X12_plus w_X12_plus_0
  unfold plusV at hq
  refine m_areRows t a ok (fun z => ⟨fun c => absurd c (by decide), fun _ => ?_⟩) (fun z => ⟨fun _ => ?_, fun c => absurd rfl c⟩)
  · rw [if_pos z] at hq
    obtain ⟨r, q, j, hr, hq', hj, ex, ey, ek, ex2, ey2, ek2⟩ := isP_n z
    rw [ex2, ey2, ek2] at hq
    rw [ex, ey, ek]
    exact m_placeAt t a ok hr (by omega) (m_placeAt t a ok hq' (by omega) hq)
  · rw [if_neg z] at hq
    exact hq
/-- the sum of products, with n of them left -/
def tmF (g g' : Nat → Int32) (k : Nat) : Nat → Int32 → Int32
  | 0, acc => acc
  | n + 1, acc => tmF g g' k n (acc + g (k - n) * g' n)
def timesV (R : Nat) (S : Nat → Nat) (N : Nat → Nat → Int32) (x y k : Int32) : Int32 := if isR R x ∧ isR R y ∧ 0 ≤ k.toInt ∧ k.toInt ≤ 10 then tmF (numV R S N x.toInt.toNat) (numV R S N y.toInt.toNat) k.toInt.toNat (k.toInt.toNat + 1) 0 else -100000
theorem nI_sub {a b : Nat} (h : b ≤ a) (ha : a < 2147483648) : nI a - nI b = nI (a - b) := t_eq.mpr (by
  have h1 := n_toInt ha
  have h2 := n_toInt (n := b) (by omega)
  rw [t_sub (by rw [h1, h2]; omega) (by rw [h1, h2]; omega), h1, h2, n_toInt (by omega)]
  omega)
theorem c_times {h : hp} {o R : Nat} {S : Nat → Nat} {N : Nat → Nat → Int32} {x y k : Int32} {Q : Int32 → Prop} (t : cAt h o) (a : cRows o h R S N) (ok : okRows R S N) (hq : Q (timesV R S N x y k)) : w_X11_times h x y k Q := by
  unfold w_X11_times w_X11_times_0
  unfold timesV at hq
  refine c_isSumPlace t a ok (fun z => ⟨fun _ => ?_, fun c => absurd c (by decide)⟩) (fun z => ⟨fun c => absurd rfl c, fun _ => ?_⟩)
  · rw [if_pos z] at hq
    obtain ⟨r, q, j, hr, hq', hj, ex, ey, ek, ex2, ey2, ek2⟩ := isP_n z
    rw [ex2, ey2, ek2] at hq
    rw [ex, ey, ek]
    unfold w_X11_times_19
    intro X hX
    have key : ∀ (n : Nat) (acc : Int32), n ≤ j + 1 → Q (tmF (numV R S N r) (numV R S N q) j n acc) → X (acc, nI (j + 1 - n)) := by
      intro n
      induction n with
      | zero =>
        intro acc _ hq
        apply hX
        exact ⟨fun _ => hq, fun c => absurd (nI_lt (by omega) (by omega)) c⟩
      | succ n ih =>
        intro acc hn hq
        apply hX
        refine ⟨fun c => absurd c (nI_nlt (by omega) (by omega)), fun _ => ⟨by rw [t.1]; exact t.2, ?_⟩⟩
        show w_X7_numberAt (gR h 0) h (nI r) (nI (j + 1 - (n + 1))) _
        rw [t.1, show j + 1 - (n + 1) = j - n from by omega]
        refine c_numberAt a ok hr (by omega) ⟨t.2, ?_⟩
        rw [nI_sub (by omega) (by omega), show j - (j - n) = n from by omega]
        refine c_numberAt a ok hq' (by omega) ?_
        intro y' e' i' e''
        subst e'
        rw [← nI_succ, show j - n + 1 = j + 1 - n from by omega] at e''
        subst e''
        exact ih _ (by omega) hq
    have := key (j + 1) 0 (Nat.le_refl _) hq
    rw [Nat.sub_self] at this
    exact this
  · rw [if_neg z] at hq
    exact hq
theorem m_times {h : hp} {s R : Nat} {S : Nat → Nat} {N : Nat → Nat → Int32} {x y k : Int32} {Q : Int32 → Prop} (t : mAt h s) (a : mRows s h R S N) (ok : okRows R S N) (hq : Q (timesV R S N x y k)) : w_X12_times h x y k Q := by
  unfold w_X12_times w_X12_times_0
  unfold timesV at hq
  refine m_areRows t a ok (fun z => ⟨fun _ => ?_, fun c => absurd c (by decide)⟩) (fun z => ⟨fun c => absurd rfl c, fun _ => ?_⟩)
  · rw [if_pos z] at hq
    obtain ⟨r, q, j, hr, hq', hj, ex, ey, ek, ex2, ey2, ek2⟩ := isP_n z
    rw [ex2, ey2, ek2] at hq
    rw [ex, ey, ek]
    unfold w_X12_times_20
    intro X hX
    have key : ∀ (n : Nat) (acc : Int32), n ≤ j + 1 → Q (tmF (numV R S N r) (numV R S N q) j n acc) → X (acc, nI (j + 1 - n)) := by
      intro n
      induction n with
      | zero =>
        intro acc _ hq
        apply hX
        exact ⟨fun _ => hq, fun c => absurd (nI_lt (by omega) (by omega)) c⟩
      | succ n ih =>
        intro acc hn hq
        apply hX
        refine ⟨fun c => absurd c (nI_nlt (by omega) (by omega)), fun _ => ?_⟩
        show w_X12_placeAt h (nI r) (nI (j + 1 - (n + 1))) _
        rw [show j + 1 - (n + 1) = j - n from by omega]
        refine m_placeAt t a ok hr (by omega) ?_
        rw [nI_sub (by omega) (by omega), show j - (j - n) = n from by omega]
        refine m_placeAt t a ok hq' (by omega) ?_
        intro y' e' i' e''
        subst e'
        rw [← nI_succ, show j - n + 1 = j + 1 - n from by omega] at e''
        subst e''
        exact ih _ (by omega) hq
    have := key (j + 1) 0 (Nat.le_refl _) hq
    rw [Nat.sub_self] at this
    exact this
  · rw [if_neg z] at hq
    exact hq
