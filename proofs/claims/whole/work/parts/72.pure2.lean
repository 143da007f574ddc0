/-! what a row comes to -/
def horF (g : Nat → Int32) (b : Int64) : Nat → Int64 → Int64
  | 0, acc => acc
  | k + 1, acc => horF g b k (acc * b + (g k).toInt64)
theorem horF_congr {g g' : Nat → Int32} {b : Int64} : ∀ (n : Nat) (acc : Int64), (∀ k, k < n → g k = g' k) → horF g b n acc = horF g' b n acc
  | 0, _, _ => rfl
  | n + 1, acc, h => by
    rw [horF, horF, h n (by omega)]
    exact horF_congr n _ (fun k hk => h k (by omega))
theorem horF_zero {g : Nat → Int32} {b : Int64} {S : Nat} (h : ∀ k, S ≤ k → g k = 0) : ∀ j : Nat, horF g b (S + j) 0 = horF g b S 0
  | 0 => rfl
  | j + 1 => by
    rw [← Nat.add_assoc, horF, h (S + j) (by omega), show (0 : Int64) * b + (0 : Int32).toInt64 = 0 from by rw [Int64.zero_mul]; rfl]
    exact horF_zero h j
def comesV (R : Nat) (S : Nat → Nat) (N : Nat → Nat → Int32) (r : Nat) (b : Int64) : Int64 := horF (numV R S N r) b 6 0
theorem comesV_m {R : Nat} {S : Nat → Nat} {N : Nat → Nat → Int32} {r : Nat} {b : Int64} (ok : okRows R S N) (hr : r < R) : comesV R S N r b = horF (N r) b (S r) 0 := by
  have hS := (ok.2 r hr).1
  obtain ⟨j, hj⟩ : ∃ j, 6 = S r + j := ⟨6 - S r, by omega⟩
  unfold comesV
  rw [hj, horF_zero (fun k hk => by unfold numV; rw [if_neg (by omega)]) j]
  exact horF_congr _ _ (fun k hk => by unfold numV; rw [if_pos ⟨hr, hk⟩])
theorem m1 (x : Int32) : x + (-1) = x - 1 := by rw [Int32.sub_eq_add_neg]
theorem c_comesTo {h : hp} {o R : Nat} {S : Nat → Nat} {N : Nat → Nat → Int32} {r : Nat} {b : Int64} {Q : Int64 → Prop} (a : cRows o h R S N) (ok : okRows R S N) (hr : r < R) (hq : Q (comesV R S N r b)) : w_X7_comesTo o h (nI r) b Q := by
  unfold w_X7_comesTo w_X7_comesTo_0 w_X7_comesTo_6
  intro X hX
  have key : ∀ (k : Nat) (acc : Int64), k ≤ 6 → Q (horF (numV R S N r) b k acc) → X (acc, nI k - 1) := by
    intro k
    induction k with
    | zero =>
      intro acc _ hq
      apply hX
      exact ⟨fun _ => hq, fun c => absurd (show (nI 0 - 1) < 0 by decide) c⟩
    | succ k ih =>
      intro acc hk hq
      rw [nI_pred]
      apply hX
      refine ⟨fun c => absurd c (nI_pos (by omega)), fun _ => c_numberAt a ok hr (by omega) ?_⟩
      intro x e x' e'
      subst e
      rw [m1] at e'
      subst e'
      exact ih _ (by omega) hq
  exact key 6 0 (by omega) hq
theorem m_comesBy {h : hp} {s R : Nat} {S : Nat → Nat} {N : Nat → Nat → Int32} {r : Nat} {b : Int64} {Q : Int64 → Prop} (t : mAt h s) (a : mRows s h R S N) (ok : okRows R S N) (hr : r < R) (hq : Q (comesV R S N r b)) : w_X12_comesBy h (nI r) b Q := by
  rw [comesV_m ok hr] at hq
  have hS := (ok.2 r hr).1
  unfold w_X12_comesBy w_X12_comesBy_0
  refine m_longAt t a ok hr ?_
  intro x ex
  subst ex
  unfold w_X12_comesBy_12
  intro X hX
  have key : ∀ (k : Nat) (acc : Int64), k ≤ S r → Q (horF (N r) b k acc) → X (acc, nI k - 1) := by
    intro k
    induction k with
    | zero =>
      intro acc _ hq
      apply hX
      exact ⟨fun _ => hq, fun c => absurd (show (nI 0 - 1) < 0 by decide) c⟩
    | succ k ih =>
      intro acc hk hq
      rw [nI_pred]
      apply hX
      refine ⟨fun c => absurd c (nI_pos (by omega)), fun _ => m_at t a ok hr (by omega) ?_⟩
      intro x e x' e'
      subst e
      rw [m1] at e'
      subst e'
      exact ih _ (by omega) hq
  exact key (S r) 0 (Nat.le_refl _) hq
/-- what comes(r, b) answers -/
def comesA (R : Nat) (S : Nat → Nat) (N : Nat → Nat → Int32) (x b : Int32) : Int64 := if isR R x ∧ -999 ≤ b.toInt ∧ b.toInt ≤ 999 then comesV R S N x.toInt.toNat b.toInt64 else -2000000000000000000
theorem c_comes {h : hp} {o R : Nat} {S : Nat → Nat} {N : Nat → Nat → Int32} {x b : Int32} {Q : Int64 → Prop} (t : cAt h o) (a : cRows o h R S N) (ok : okRows R S N) (hq : Q (comesA R S N x b)) : w_X11_comes h x b Q := by
  unfold w_X11_comes w_X11_comes_0
  unfold comesA at hq
  refine c_isRow t a ok (fun z => ⟨fun c => absurd c (by decide), fun _ => ?_⟩) (fun z => ⟨fun _ => ?_, fun c => absurd rfl c⟩)
  · refine c_within (fun c => ⟨fun _ => ⟨by rw [t.1]; exact t.2, ?_⟩, fun q => absurd q (by decide)⟩) (fun c => ⟨fun q => absurd rfl q, fun _ => ?_⟩)
    · rw [tL_int] at c
      rw [if_pos ⟨z, c⟩] at hq
      obtain ⟨r, hr, rfl, er⟩ := isR_n z
      rw [er] at hq
      rw [t.1]
      exact c_comesTo a ok hr hq
    · rw [tL_int] at c
      rw [if_neg (fun q => c q.2)] at hq
      exact hq
  · rw [if_neg (fun q => z q.1)] at hq
    exact hq
theorem m_comes {h : hp} {s R : Nat} {S : Nat → Nat} {N : Nat → Nat → Int32} {x b : Int32} {Q : Int64 → Prop} (t : mAt h s) (a : mRows s h R S N) (ok : okRows R S N) (hq : Q (comesA R S N x b)) : w_X12_comes h x b Q := by
  unfold w_X12_comes w_X12_comes_0
  unfold comesA at hq
  refine m_isRow t a ok (fun z => ⟨fun c => absurd c (by decide), fun _ => ?_⟩) (fun z => ⟨fun _ => ?_, fun c => absurd rfl c⟩)
  · refine m_in (fun c => ⟨fun q => absurd q (by decide), fun _ => ?_⟩) (fun c => ⟨fun _ => ?_, fun q => absurd rfl q⟩)
    · rw [tL_int] at c
      rw [if_pos ⟨z, c⟩] at hq
      obtain ⟨r, hr, rfl, er⟩ := isR_n z
      rw [er] at hq
      exact m_comesBy t a ok hr hq
    · rw [tL_int] at c
      rw [if_neg (fun q => c q.2)] at hq
      exact hq
  · rw [if_neg (fun q => z q.1)] at hq
    exact hq
/-! whether some number lies below 0 -/
def isB (S : Nat → Nat) (N : Nat → Nat → Int32) (r : Nat) : Prop := ∃ k, k < S r ∧ (N r k).toInt < 0
theorem c_isBelow {h : hp} {o R : Nat} {S : Nat → Nat} {N : Nat → Nat → Int32} {r : Nat} {Q : Int32 → Prop} (a : cRows o h R S N) (ok : okRows R S N) (hr : r < R) (hq1 : isB S N r → Q 1) (hq0 : ¬ isB S N r → Q 0) : w_X7_isSomeBelowZero o h (nI r) Q := by
  have hS := (ok.2 r hr).1
  have h0 : (0 : Int32).toInt = 0 := rfl
  unfold w_X7_isSomeBelowZero w_X7_isSomeBelowZero_0 w_X7_isSomeBelowZero_2
  intro X hX
  have key : ∀ (n k : Nat), n + k = 6 → (∀ j, j < k → ¬ (numV R S N r j).toInt < 0) → X (nI k) := by
    intro n
    induction n with
    | zero =>
      intro k hk hn
      have ek : k = 6 := by omega
      subst ek
      apply hX
      refine ⟨fun _ => hq0 ?_, fun c => absurd (show (6 : Int32) ≤ nI 6 by decide) c⟩
      rintro ⟨j, hj, hlt⟩
      have := hn j (by omega)
      unfold numV at this
      rw [if_pos ⟨hr, hj⟩] at this
      exact this hlt
    | succ n ih =>
      intro k hk hn
      apply hX
      refine ⟨fun c => absurd c (nI_ge (b := 6) (by omega) (by omega)), fun _ => c_numberAt a ok hr (by omega) ⟨fun c x ex => ?_, fun c => hq1 ?_⟩⟩
      · rw [← nI_succ] at ex
        subst ex
        refine ih (k + 1) (by omega) (fun j hj => ?_)
        rcases Nat.lt_or_ge j k with q | q
        · exact hn j q
        · have ej : j = k := by omega
          subst ej
          rw [t_le, h0] at c
          omega
      · rw [t_le, h0] at c
        unfold numV at c
        by_cases hkS : k < S r
        · rw [if_pos ⟨hr, hkS⟩] at c
          exact ⟨k, hkS, by omega⟩
        · rw [if_neg (fun z => hkS z.2), h0] at c
          omega
  exact key 6 0 rfl (fun j hj => by omega)
theorem m_isBelow {h : hp} {s R : Nat} {S : Nat → Nat} {N : Nat → Nat → Int32} {r : Nat} {Q : Int32 → Prop} (t : mAt h s) (a : mRows s h R S N) (ok : okRows R S N) (hr : r < R) (hq1 : isB S N r → Q 1) (hq0 : ¬ isB S N r → Q 0) : w_X12_isBelow h (nI r) Q := by
  have hS := (ok.2 r hr).1
  have h0 : (0 : Int32).toInt = 0 := rfl
  unfold w_X12_isBelow w_X12_isBelow_0 w_X12_isBelow_2
  intro X hX
  have key : ∀ (n k : Nat), n + k = S r → (∀ j, j < k → ¬ (N r j).toInt < 0) → X (nI k) := by
    intro n
    induction n with
    | zero =>
      intro k hk hn
      have ek : k = S r := by omega
      subst ek
      apply hX
      refine m_longAt t a ok hr ⟨fun _ => hq0 ?_, fun c => absurd (nI_le (Nat.le_refl _) (by omega)) c⟩
      rintro ⟨j, hj, hlt⟩
      exact hn j hj hlt
    | succ n ih =>
      intro k hk hn
      apply hX
      refine m_longAt t a ok hr ⟨fun c => absurd c (nI_ge (by omega) (by omega)), fun _ => m_at t a ok hr (by omega) ⟨fun c x ex => ?_, fun c => hq1 ?_⟩⟩
      · rw [← nI_succ] at ex
        subst ex
        refine ih (k + 1) (by omega) (fun j hj => ?_)
        rcases Nat.lt_or_ge j k with q | q
        · exact hn j q
        · have ej : j = k := by omega
          subst ej
          rw [t_le, h0] at c
          omega
      · rw [t_le, h0] at c
        exact ⟨k, by omega, by omega⟩
  exact key (S r) 0 rfl (fun j hj => by omega)
