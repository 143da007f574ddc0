/-! fits -/
theorem fstF_eq {p : Nat → Prop} [DecidablePred p] {M j : Nat} {d : Int32} (hj : j < M) (h1 : p j) (h2 : ∀ i, i < j → ¬ p i) : ∀ n, n ≤ M → M - n ≤ j → fstF p M d n = nI j
  | 0, _, h => by omega
  | n + 1, hn, h => by
    unfold fstF
    by_cases e : M - (n + 1) = j
    · rw [e, if_pos h1]
    · rw [if_neg (h2 _ (by omega))]
      exact fstF_eq hj h1 h2 n (by omega) (by omega)
theorem fstF_none {p : Nat → Prop} [DecidablePred p] {M : Nat} {d : Int32} (h : ∀ i, i < M → ¬ p i) : ∀ n, n ≤ M → fstF p M d n = d
  | 0, _ => rfl
  | n + 1, hn => by
    unfold fstF
    rw [if_neg (h _ (by omega))]
    exact fstF_none h n (by omega)
abbrev atP (P : Nat → Bool) (q j : Nat) : Prop := P j = true ∧ cn P j = q
def fitsA (P : Nat → Bool) (M : Nat) (x : Int32) : Int32 := if x = -1 then nI (cn P M) else fstF (atP P x.toInt.toNat) M (-1) M
theorem n1_of {x : Int32} (h : -1 ≤ x.toInt) (n : ¬ x = -1) : x = nI x.toInt.toNat ∧ x.toInt.toNat < 2147483648 ∧ 0 ≤ x.toInt := by
  have : ¬ x.toInt = -1 := fun q => n (t_eq.mpr q)
  have h0 : 0 ≤ x.toInt := by omega
  exact ⟨(n_of h0).1, (n_of h0).2, h0⟩
theorem c_fits {h : hp} {W G D : Nat} {A : Nat → Int32} {B : Nat → Int64} {k w s x : Int32} {Q : Int32 → hp → Prop} (a : cWld h W G) (nz : cNz h W G) (ok : okW W G) (d : cTold 51 h D A B) (hD : D ≤ 20) (hq1 : ∀ h1, isC D k w s ∧ -1 ≤ x.toInt → eqE cScr h h1 → Q (fitsA (fitX W G A B k w s) ((G + 1) ^ W) x) h1) (hq0 : ¬ (isC D k w s ∧ -1 ≤ x.toInt) → Q (-1) h) : w_X11_fits h k w s x Q := by
  obtain ⟨o1, o2, o3, o4⟩ := id ok
  have hM := pow_W (G := G) (j := W) o4 o2
  have e1 : (-1 : Int32).toInt = -1 := rfl
  unfold w_X11_fits w_X11_fits_0
  refine ⟨fun c => hq0 (fun q => ?_), fun c => ?_⟩
  · rw [t_lt, e1] at c; have := q.2; omega
  rw [t_lt, e1] at c
  refine c_choose a nz ok d hD (fun h1 hc x1 f1 => ⟨fun _ => ?_, fun q => absurd q (by decide)⟩) (fun hc => ⟨fun q => absurd rfl q, fun _ => hq0 (fun q => hc q.1)⟩)
  have hq := hq1 h1 ⟨hc, by omega⟩ x1
  unfold fitsA at hq
  generalize fitX W G A B k w s = P at f1 hq
  generalize (G + 1) ^ W = M at hM f1 hq
  have hcn := cn_le P M
  refine ⟨fun c2 => ?_, fun c2 => ?_⟩
  · rw [if_neg c2] at hq
    obtain ⟨ex, hx, h0⟩ := n1_of (by omega) c2
    generalize x.toInt.toNat = q at ex hx hq
    subst ex
    rw [f1.1, ix_n hx]
    refine ⟨fun c3 => ?_, fun c3 => ?_⟩
    · have c3 := (nI_leI (by omega) hx).mp c3
      rw [fstF_none (fun i hi z => by have := cn_lt (P := P) hi z.1; have := z.2; omega) _ (Nat.le_refl _)] at hq
      exact hq
    · have c3 : q < cn P M := by
        rcases Nat.lt_or_ge q (cn P M) with z | z
        · exact z
        · exact absurd (nI_le z hx) c3
      obtain ⟨i, hi, hpi, e⟩ := cn_surj M c3
      refine ⟨in_n (by omega) (by omega), ?_⟩
      rw [← e, f1.2 i hi hpi]
      rw [fstF_eq hi ⟨hpi, e⟩ (fun j hj z => by have := cn_inj z.1 hpi (by rw [z.2, e]); omega) _ (Nat.le_refl _) (by omega)] at hq
      exact hq
  · rw [if_pos c2] at hq
    rw [f1.1]
    exact hq
theorem m_fits {h : hp} {v W G D : Nat} {A : Nat → Int32} {B : Nat → Int64} {k w s x : Int32} {Q : Int32 → hp → Prop} (t : mAt h v) (a : mWld v h W G) (ok : okW W G) (d : mTold h D A B) (hD : D ≤ 20) (hq1 : ∀ h1, isC D k w s ∧ -1 ≤ x.toInt → eqE mScr h h1 → Q (fitsA (fitX W G A B k w s) ((G + 1) ^ W) x) h1) (hq0 : ¬ (isC D k w s ∧ -1 ≤ x.toInt) → Q (-1) h) : w_X12_fits h k w s x Q := by
  obtain ⟨o1, o2, o3, o4⟩ := id ok
  have hM := pow_W (G := G) (j := W) o4 o2
  have e1 : (-1 : Int32).toInt = -1 := rfl
  unfold w_X12_fits w_X12_fits_0
  refine m_isAsked d hD (fun hc => ⟨fun q => absurd q (by decide), fun _ => ⟨fun c => ?_, fun c => hq0 (fun q => c ?_)⟩⟩) (fun hc => ⟨fun _ => hq0 (fun q => hc q.1), fun q => absurd rfl q⟩)
  · rw [t_le, e1] at c
    refine m_fillsX t a ok d hD hc (fun h1 x1 f1 => ?_)
    have hq := hq1 h1 ⟨hc, c⟩ x1
    unfold fitsA at hq
    have wa : ∀ {R : Int32 → Prop}, R (nI ((G + 1) ^ W)) → w_X12_worldAll h1 R := fun hr => m_worldAll (mAt_e x1 t) (mWld_e x1 a) ok hr
    generalize fitX W G A B k w s = P at f1 hq
    generalize (G + 1) ^ W = M at hM f1 hq wa
    refine ⟨fun c2 => ?_, fun c2 => ?_⟩
    · rw [if_neg c2] at hq
      obtain ⟨ex, hx, h0⟩ := n1_of c c2
      generalize x.toInt.toNat = q at ex hx hq
      subst ex
      unfold w_X12_fits_42
      intro X hX
      have key : ∀ n j : Nat, n + j = M → Q (fstF (atP P q) M (-1) n) h1 → X (nI (cn P j), nI j) := by
        intro n
        induction n with
        | zero =>
          intro j hj hq
          have ej : j = M := by omega
          subst ej
          apply hX
          exact wa ⟨fun _ => hq, fun c => absurd (nI_le (Nat.le_refl _) (by omega)) c⟩
        | succ n ih =>
          intro j hj hq
          have hcn := cn_le P j
          unfold fstF at hq
          rw [show M - (n + 1) = j from by omega] at hq
          have nxt := ih (j + 1) (by omega)
          apply hX
          unfold w_X12_fits_b42
          rw [ix_n (by omega), f1 j (by omega)]
          refine wa ⟨fun c => absurd c (nI_ge (by omega) (by omega)), fun _ => ⟨in_n (by omega) (by omega), fun c3 => ⟨fun c4 y ey u eu => ?_, fun c4 => ?_⟩, fun c3 u eu => ?_⟩⟩
          · have pj : P j = true := by
              by_cases z : P j = true
              · exact z
              · rw [if_neg z] at c3; exact absurd rfl c3
            have c4 : ¬ cn P j = q := fun z => c4 (congrArg nI z)
            rw [if_neg (fun z => c4 z.2)] at hq
            rw [← nI_succ] at ey eu
            subst ey eu
            have e : cn P (j + 1) = cn P j + 1 := by
              show cn P j + _ = _
              rw [if_pos pj]
            rw [e] at nxt
            exact nxt hq
          · have pj : P j = true := by
              by_cases z : P j = true
              · exact z
              · rw [if_neg z] at c3; exact absurd rfl c3
            have c4 : cn P j = q := (nI_eq (by omega) (by omega)).mp c4
            rw [if_pos ⟨pj, c4⟩] at hq
            exact hq
          · have pj : ¬ P j = true := fun z => by rw [if_pos z] at c3; exact absurd c3 (by decide)
            rw [if_neg (fun z => pj z.1)] at hq
            rw [← nI_succ] at eu
            subst eu
            have e : cn P (j + 1) = cn P j := by
              show cn P j + _ = _
              rw [if_neg pj, Nat.add_zero]
            rw [e] at nxt
            exact nxt hq
      exact key M 0 (by omega) hq
    · rw [if_pos c2] at hq
      exact hq
  · rw [t_le, e1]; exact q.2
/-! least and greatest at a place -/
def lsF (P : Nat → Bool) (G k : Nat) : Nat → Nat
  | 0 => 9
  | i + 1 => if P i = true then (if figW G i k < lsF P G k i then figW G i k else lsF P G k i) else lsF P G k i
def gsF (P : Nat → Bool) (G k : Nat) : Nat → Nat
  | 0 => 0
  | i + 1 => if P i = true then (if gsF P G k i < figW G i k then figW G i k else gsF P G k i) else gsF P G k i
theorem figW_9 {G i k : Nat} (hG : G ≤ 9) : figW G i k ≤ 9 := by
  have : figW G i k < G + 1 := Nat.mod_lt _ (by omega)
  omega
theorem lsF_9 (P : Nat → Bool) {G : Nat} (k : Nat) (hG : G ≤ 9) : ∀ i, lsF P G k i ≤ 9
  | 0 => Nat.le_refl _
  | i + 1 => by
    have h1 := lsF_9 P k hG i
    have h2 := figW_9 (i := i) (k := k) hG
    unfold lsF
    split
    · split <;> omega
    · exact h1
theorem gsF_9 (P : Nat → Bool) {G : Nat} (k : Nat) (hG : G ≤ 9) : ∀ i, gsF P G k i ≤ 9
  | 0 => Nat.zero_le _
  | i + 1 => by
    have h1 := gsF_9 P k hG i
    have h2 := figW_9 (i := i) (k := k) hG
    unfold gsF
    split
    · split <;> omega
    · exact h1
theorem c_leastAt {h : hp} {W G k : Nat} {P : Nat → Bool} {Q : Int32 → Prop} (a : cWld h W G) (ok : okW W G) (fi : cFit h P ((G + 1) ^ W)) (hk : k < 2147483648) (hq : Q (nI (lsF P G k ((G + 1) ^ W)))) : w_X1_leastAt h (nI k) Q := by
  obtain ⟨o1, o2, o3, o4⟩ := id ok
  have hM := pow_W (G := G) (j := W) o4 o2
  unfold w_X1_leastAt w_X1_leastAt_0 w_X1_leastAt_5
  intro X hX
  generalize (G + 1) ^ W = M at hM fi hq
  have hc := cn_le P M
  have key : ∀ n j : Nat, n + j = M → X (nI (lsF P G k j), nI (cn P j)) := by
    intro n
    induction n with
    | zero =>
      intro j hj
      have ej : j = M := by omega
      subst ej
      apply hX
      unfold w_X1_leastAt_b5
      rw [fi.1]
      exact ⟨fun _ => hq, fun c => absurd (nI_le (Nat.le_refl _) (by omega)) c⟩
    | succ n ih =>
      intro j hj
      have nxt := ih (j + 1) (by omega)
      by_cases pj : P j = true
      · have e : cn P (j + 1) = cn P j + 1 := by
          show cn P j + _ = _
          rw [if_pos pj]
        have hl := cn_lt (P := P) (show j < M by omega) pj
        have h1 := lsF_9 P k o4 j
        have h2 := figW_9 (i := j) (k := k) o4
        rw [e] at nxt
        unfold lsF at nxt
        rw [if_pos pj] at nxt
        apply hX
        unfold w_X1_leastAt_b5
        rw [fi.1, ix_n (by omega), fi.2 j (by omega) pj]
        refine ⟨fun c => absurd c (nI_ge (by omega) (by omega)), fun _ => ⟨in_n (by omega) (by omega), c_numW a ok (by omega) hk (fun y ey u eu => ?_)⟩⟩
        have ey : y = if nI (figW G j k) < nI (lsF P G k j) then nI (figW G j k) else nI (lsF P G k j) := ey
        have ey : y = nI (if figW G j k < lsF P G k j then figW G j k else lsF P G k j) := by
          rw [ey]
          by_cases c : figW G j k < lsF P G k j
          · rw [if_pos c, if_pos (nI_lt c (by omega))]
          · rw [if_neg c, if_neg (nI_nlt (by omega) (by omega))]
        rw [← nI_succ] at eu
        subst ey eu
        exact nxt
      · have e : cn P (j + 1) = cn P j := by
          show cn P j + _ = _
          rw [if_neg pj, Nat.add_zero]
        rw [e] at nxt
        unfold lsF at nxt
        rw [if_neg pj] at nxt
        exact nxt
  exact key M 0 (by omega)
theorem c_greatestAt {h : hp} {W G k : Nat} {P : Nat → Bool} {Q : Int32 → Prop} (a : cWld h W G) (ok : okW W G) (fi : cFit h P ((G + 1) ^ W)) (hk : k < 2147483648) (hq : Q (nI (gsF P G k ((G + 1) ^ W)))) : w_X1_greatestAt h (nI k) Q := by
  obtain ⟨o1, o2, o3, o4⟩ := id ok
  have hM := pow_W (G := G) (j := W) o4 o2
  unfold w_X1_greatestAt w_X1_greatestAt_0 w_X1_greatestAt_4
  intro X hX
  generalize (G + 1) ^ W = M at hM fi hq
  have hc := cn_le P M
  have key : ∀ n j : Nat, n + j = M → X (nI (gsF P G k j), nI (cn P j)) := by
    intro n
    induction n with
    | zero =>
      intro j hj
      have ej : j = M := by omega
      subst ej
      apply hX
      unfold w_X1_greatestAt_b4
      rw [fi.1]
      exact ⟨fun _ => hq, fun c => absurd (nI_le (Nat.le_refl _) (by omega)) c⟩
    | succ n ih =>
      intro j hj
      have nxt := ih (j + 1) (by omega)
      by_cases pj : P j = true
      · have e : cn P (j + 1) = cn P j + 1 := by
          show cn P j + _ = _
          rw [if_pos pj]
        have hl := cn_lt (P := P) (show j < M by omega) pj
        have h1 := gsF_9 P k o4 j
        have h2 := figW_9 (i := j) (k := k) o4
        rw [e] at nxt
        unfold gsF at nxt
        rw [if_pos pj] at nxt
        apply hX
        unfold w_X1_greatestAt_b4
        rw [fi.1, ix_n (by omega), fi.2 j (by omega) pj]
        refine ⟨fun c => absurd c (nI_ge (by omega) (by omega)), fun _ => ⟨in_n (by omega) (by omega), c_numW a ok (by omega) hk (fun y ey u eu => ?_)⟩⟩
        have ey : y = if nI (gsF P G k j) < nI (figW G j k) then nI (figW G j k) else nI (gsF P G k j) := ey
        have ey : y = nI (if gsF P G k j < figW G j k then figW G j k else gsF P G k j) := by
          rw [ey]
          by_cases c : gsF P G k j < figW G j k
          · rw [if_pos c, if_pos (nI_lt c (by omega))]
          · rw [if_neg c, if_neg (nI_nlt (by omega) (by omega))]
        rw [← nI_succ] at eu
        subst ey eu
        exact nxt
      · have e : cn P (j + 1) = cn P j := by
          show cn P j + _ = _
          rw [if_neg pj, Nat.add_zero]
        rw [e] at nxt
        unfold gsF at nxt
        rw [if_neg pj] at nxt
        exact nxt
  exact key M 0 (by omega)
def ls10 (P : Nat → Bool) (G k i : Nat) : Nat := if cn P i = 0 then 10 else lsF P G k i
theorem ls10_s {P : Nat → Bool} {G k i : Nat} (hG : G ≤ 9) : ls10 P G k (i + 1) = if P i = true then (if ls10 P G k i ≤ figW G i k then ls10 P G k i else figW G i k) else ls10 P G k i := by
  have h1 := lsF_9 P k hG i
  have h2 := figW_9 (i := i) (k := k) hG
  have el : lsF P G k (i + 1) = if P i = true then (if figW G i k < lsF P G k i then figW G i k else lsF P G k i) else lsF P G k i := rfl
  have ec : cn P (i + 1) = cn P i + (if P i = true then 1 else 0) := rfl
  -- none ahead: the least is still 9
  have e9 : ∀ j, cn P j = 0 → lsF P G k j = 9 := by
    intro j
    induction j with
    | zero => intro _; rfl
    | succ j ih =>
      intro hz
      have hz : cn P j + (if P j = true then 1 else 0) = 0 := hz
      by_cases q : P j = true
      · rw [if_pos q] at hz; omega
      · show (if P j = true then _ else _) = 9
        rw [if_neg q]
        exact ih (by omega)
  unfold ls10
  rw [el, ec]
  by_cases p : P i = true
  · rw [if_pos p, if_pos p, if_pos p, if_neg (show ¬ cn P i + 1 = 0 by omega)]
    by_cases c : cn P i = 0
    · rw [if_pos c, e9 i c]
      split <;> split <;> omega
    · rw [if_neg c]
      split <;> split <;> omega
  · rw [if_neg p, if_neg p, if_neg p, Nat.add_zero]
theorem m_spanOf {h : hp} {v W G k : Nat} {P : Nat → Bool} {Q : Int32 → Prop} (t : mAt h v) (a : mWld v h W G) (ok : okW W G) (fi : mFit h P ((G + 1) ^ W)) (hk : k < 2147483648) (hq : Q (nI (10 * ls10 P G k ((G + 1) ^ W) + gsF P G k ((G + 1) ^ W)))) : w_X12_spanOf h (nI k) Q := by
  obtain ⟨o1, o2, o3, o4⟩ := id ok
  have hM := pow_W (G := G) (j := W) o4 o2
  have l10 : ∀ i, ls10 P G k i ≤ 10 := fun i => by
    have := lsF_9 P k o4 i
    unfold ls10
    split <;> omega
  unfold w_X12_spanOf w_X12_spanOf_0 w_X12_spanOf_8
  intro X hX
  have wa : ∀ {R : Int32 → Prop}, R (nI ((G + 1) ^ W)) → w_X12_worldAll h R := fun hr => m_worldAll t a ok hr
  generalize (G + 1) ^ W = M at hM fi hq wa
  have key : ∀ n j : Nat, n + j = M → X (nI (ls10 P G k j), nI (gsF P G k j), nI j) := by
    intro n
    induction n with
    | zero =>
      intro j hj
      have ej : j = M := by omega
      subst ej
      have h1 := l10 j
      have h2 := gsF_9 P k o4 j
      apply hX
      refine wa ⟨fun _ => ?_, fun c => absurd (nI_le (Nat.le_refl _) (by omega)) c⟩
      show Q (10 * nI (ls10 P G k j) + nI (gsF P G k j))
      rw [show (10 : Int32) = nI 10 from rfl, nI_mul (by omega) (by omega) (by omega), nI_add]
      exact hq
    | succ n ih =>
      intro j hj
      have nxt := ih (j + 1) (by omega)
      have h1 := l10 j
      have h2 := gsF_9 P k o4 j
      have h3 := figW_9 (i := j) (k := k) o4
      rw [ls10_s o4] at nxt
      unfold gsF at nxt
      apply hX
      unfold w_X12_spanOf_b8
      rw [ix_n (by omega), fi j (by omega)]
      refine wa ⟨fun c => absurd c (nI_ge (by omega) (by omega)), fun _ => ⟨in_n (by omega) (by omega), fun c => ?_, fun c u eu => ?_⟩⟩
      · have pj : P j = true := by
          by_cases z : P j = true
          · exact z
          · rw [if_neg z] at c; exact absurd rfl c
        rw [if_pos pj, if_pos pj] at nxt
        refine m_figureOf t a ok (by omega) hk ?_
        have sec : ∀ l : Nat, X (nI l, nI (if gsF P G k j < figW G j k then figW G j k else gsF P G k j), nI (j + 1)) → w_X12_spanOf_48 Q X (nI k) (nI l) (nI (gsF P G k j)) (nI j) (nI (figW G j k)) h := by
          intro l nx
          refine ⟨fun c u eu => ?_, fun c u eu => ?_⟩
          · have c := (nI_leI (by omega) (by omega)).mp c
            rw [← nI_succ] at eu
            subst eu
            rw [if_neg (by omega)] at nx
            exact nx
          · have c : ¬ figW G j k ≤ gsF P G k j := fun q => c (nI_le q (by omega))
            rw [← nI_succ] at eu
            subst eu
            rw [if_pos (by omega)] at nx
            exact nx
        refine ⟨fun c => sec _ ?_, fun c => sec _ ?_⟩
        · have c := (nI_leI (by omega) (by omega)).mp c
          rw [if_pos c] at nxt
          exact nxt
        · have c : ¬ ls10 P G k j ≤ figW G j k := fun q => c (nI_le q (by omega))
          rw [if_neg c] at nxt
          exact nxt
      · have pj : ¬ P j = true := fun z => by rw [if_pos z] at c; exact absurd c (by decide)
        rw [if_neg pj, if_neg pj] at nxt
        rw [← nI_succ] at eu
        subst eu
        exact nxt
  exact key M 0 (by omega)
/-! sure -/
def suF (P : Nat → Bool) (G M W : Nat) : Nat → Int32 → Int32
  | 0, acc => acc
  | n + 1, acc => suF P G M W n (if lsF P G (W - (n + 1)) M = gsF P G (W - (n + 1)) M then acc ||| jshl 1 (nI (W - (n + 1))) else acc)
def sureV (P : Nat → Bool) (G M W : Nat) : Int32 := if cn P M = 0 then 0 else suF P G M W W 0
theorem c_sure {h : hp} {W G D : Nat} {A : Nat → Int32} {B : Nat → Int64} {k w s : Int32} {Q : Int32 → hp → Prop} (a : cWld h W G) (nz : cNz h W G) (ok : okW W G) (d : cTold 51 h D A B) (hD : D ≤ 20) (hq1 : ∀ h1, isC D k w s → eqE cScr h h1 → Q (sureV (fitX W G A B k w s) G ((G + 1) ^ W) W) h1) (hq0 : ¬ isC D k w s → Q (-1) h) : w_X11_sure h k w s Q := by
  obtain ⟨o1, o2, o3, o4⟩ := id ok
  have hM := pow_W (G := G) (j := W) o4 o2
  unfold w_X11_sure w_X11_sure_0
  refine c_choose a nz ok d hD (fun h1 hc x1 f1 => ⟨fun q => absurd q (by decide), fun _ => ?_⟩) (fun hc => ⟨fun _ => hq0 hc, fun q => absurd rfl q⟩)
  have hq := hq1 h1 hc x1
  have a1 := cWld_e x1 a
  generalize fitX W G A B k w s = P at f1 hq
  have hcn := cn_le P ((G + 1) ^ W)
  unfold w_X1_surePlaces w_X1_surePlaces_0 w_X1_surePlaces_4
  intro X hX
  unfold sureV at hq
  by_cases c0 : cn P ((G + 1) ^ W) = 0
  · rw [if_pos c0] at hq
    apply hX
    refine ⟨fun _ => hq, fun _ => ⟨fun _ => hq, fun c => absurd ?_ c⟩⟩
    show gI h1 71 1 ≤ 0
    rw [f1.1, c0]
    decide
  · rw [if_neg c0] at hq
    have key : ∀ (n : Nat) (acc : Int32), n ≤ W → Q (suF P G ((G + 1) ^ W) W n acc) h1 → X (acc, nI (W - n)) := by
      intro n
      induction n with
      | zero =>
        intro acc _ hq
        apply hX
        refine ⟨fun _ => hq, fun c => absurd ?_ c⟩
        show gI h1 64 0 ≤ nI W
        rw [a1.1]
        exact nI_le (Nat.le_refl _) (by omega)
      | succ n ih =>
        intro acc hn hq
        unfold suF at hq
        apply hX
        unfold w_X1_surePlaces_b4
        rw [a1.1, f1.1]
        refine ⟨fun c => absurd c (nI_ge (by omega) (by omega)), fun _ => ⟨fun c => absurd ((nI_leI (b := 0) (by omega) (by omega)).mp c) (by omega), fun _ => c_leastAt a1 ok f1 (by omega) (c_greatestAt a1 ok f1 (by omega) ?_)⟩⟩
        have h9 := lsF_9 P (W - (n + 1)) o4 ((G + 1) ^ W)
        have h8 := gsF_9 P (W - (n + 1)) o4 ((G + 1) ^ W)
        have e1 : nI (W - (n + 1)) + 1 = nI (W - n) := by rw [← nI_succ]; congr 1; omega
        refine ⟨fun c u eu => ?_, fun c y ey u eu => ?_⟩
        · have eu : u = nI (W - (n + 1)) + 1 := eu
          rw [e1] at eu
          subst eu
          rw [if_neg (fun q => c (congrArg nI q))] at hq
          exact ih acc (by omega) hq
        · have eu : u = nI (W - (n + 1)) + 1 := eu
          have ey : y = acc ||| jshl 1 (nI (W - (n + 1))) := ey
          rw [e1] at eu
          subst eu ey
          rw [if_pos ((nI_eq (by omega) (by omega)).mp c)] at hq
          exact ih _ (by omega) hq
    have := key W 0 (Nat.le_refl _) hq
    rw [Nat.sub_self] at this
    exact this
theorem m_sure {h : hp} {v W G D : Nat} {A : Nat → Int32} {B : Nat → Int64} {k w s : Int32} {Q : Int32 → hp → Prop} (t : mAt h v) (a : mWld v h W G) (ok : okW W G) (d : mTold h D A B) (hD : D ≤ 20) (hq1 : ∀ h1, isC D k w s → eqE mScr h h1 → Q (sureV (fitX W G A B k w s) G ((G + 1) ^ W) W) h1) (hq0 : ¬ isC D k w s → Q (-1) h) : w_X12_sure h k w s Q := by
  obtain ⟨o1, o2, o3, o4⟩ := id ok
  have hM := pow_W (G := G) (j := W) o4 o2
  unfold w_X12_sure w_X12_sure_0
  refine m_isAsked d hD (fun hc => ⟨fun _ => m_fillsX t a ok d hD hc (fun h1 x1 f1 => ?_), fun q => absurd q (by decide)⟩) (fun hc => ⟨fun q => absurd rfl q, fun _ => hq0 hc⟩)
  have hq := hq1 h1 hc x1
  have a1 := mWld_e x1 a
  have t1 := mAt_e x1 t
  have hs := t1.2
  have eW : gI h1 19 (ix (gI h1 0 18)) = nI W := by rw [t1.1, ix_n (by omega), a1.1]
  have hin : vp_in (gI h1 0 18) 2 := by rw [t1.1]; exact in_n hs (by omega)
  generalize fitX W G A B k w s = P at f1 hq
  have hcn := cn_le P ((G + 1) ^ W)
  unfold sureV at hq
  refine ⟨fun c => ?_, fun c => ?_⟩
  · have c := (nI_leI (b := 0) (by omega) (by omega)).mp c
    rw [if_pos (by omega)] at hq
    exact hq
  · have c : ¬ cn P ((G + 1) ^ W) = 0 := fun q => c (by rw [q]; decide)
    rw [if_neg c] at hq
    unfold w_X12_sure_28
    intro X hX
    have key : ∀ (n : Nat) (acc : Int32), n ≤ W → Q (suF P G ((G + 1) ^ W) W n acc) h1 → X (acc, nI (W - n)) := by
      intro n
      induction n with
      | zero =>
        intro acc _ hq
        apply hX
        unfold w_X12_sure_b28
        rw [eW]
        exact ⟨hin, fun _ => hq, fun c => absurd (nI_le (Nat.le_refl _) (by omega)) c⟩
      | succ n ih =>
        intro acc hn hq
        unfold suF at hq
        have h9 := lsF_9 P (W - (n + 1)) o4 ((G + 1) ^ W)
        have h8 := gsF_9 P (W - (n + 1)) o4 ((G + 1) ^ W)
        have e1 : nI (W - (n + 1)) + 1 = nI (W - n) := by rw [← nI_succ]; congr 1; omega
        apply hX
        unfold w_X12_sure_b28
        rw [eW]
        refine ⟨hin, fun c => absurd c (nI_ge (by omega) (by omega)), fun _ => m_spanOf t1 a1 ok f1 (by omega) ?_⟩
        unfold ls10
        rw [if_neg c, show (11 : Int32) = nI 11 from rfl, nI_rem (by omega) (by omega) (by omega)]
        have iff : nI ((10 * lsF P G (W - (n + 1)) ((G + 1) ^ W) + gsF P G (W - (n + 1)) ((G + 1) ^ W)) % 11) = 0 ↔ lsF P G (W - (n + 1)) ((G + 1) ^ W) = gsF P G (W - (n + 1)) ((G + 1) ^ W) := by
          refine Iff.trans (nI_eq (b := 0) (by omega) (by omega)) ?_
          omega
        refine ⟨fun c u eu => ?_, fun c y ey u eu => ?_⟩
        · have eu : u = nI (W - (n + 1)) + 1 := eu
          rw [e1] at eu
          subst eu
          rw [if_neg (fun q => c (iff.mpr q))] at hq
          exact ih acc (by omega) hq
        · have eu : u = nI (W - (n + 1)) + 1 := eu
          have ey : y = acc ||| jshl 1 (nI (W - (n + 1))) := ey
          rw [e1] at eu
          subst eu ey
          rw [if_pos (iff.mp c)] at hq
          exact ih _ (by omega) hq
    have := key W 0 (Nat.le_refl _) hq
    rw [Nat.sub_self] at this
    exact this
/-! span -/
def spanV (P : Nat → Bool) (G M : Nat) (x : Int32) : Int32 := if cn P M = 0 then -2 else nI (10 * lsF P G x.toInt.toNat M + gsF P G x.toInt.toNat M)
abbrev isCP (D W : Nat) (k w s x : Int32) : Prop := isC D k w s ∧ 0 ≤ x.toInt ∧ x.toInt < (W : Int)
theorem c_span {h : hp} {W G D : Nat} {A : Nat → Int32} {B : Nat → Int64} {k w s x : Int32} {Q : Int32 → hp → Prop} (a : cWld h W G) (nz : cNz h W G) (ok : okW W G) (d : cTold 51 h D A B) (hD : D ≤ 20) (hq1 : ∀ h1, isCP D W k w s x → eqE cScr h h1 → Q (spanV (fitX W G A B k w s) G ((G + 1) ^ W) x) h1) (hq0 : ¬ isCP D W k w s x → Q (-1) h) : w_X11_span h k w s x Q := by
  obtain ⟨o1, o2, o3, o4⟩ := id ok
  have hM := pow_W (G := G) (j := W) o4 o2
  have z0 : (0 : Int32).toInt = 0 := rfl
  have eW := n_toInt (n := W) (by omega)
  unfold w_X11_span w_X11_span_0
  rw [a.1]
  refine ⟨fun c => hq0 (fun q => ?_), fun c => ⟨fun c2 => hq0 (fun q => ?_), fun c2 => ?_⟩⟩
  · rw [t_lt, z0] at c; have := q.2.1; omega
  · rw [t_le, eW] at c2; have := q.2.2; omega
  · rw [t_lt, z0] at c
    rw [t_le, eW] at c2
    refine c_choose a nz ok d hD (fun h1 hc x1 f1 => ⟨fun _ => ?_, fun q => absurd q (by decide)⟩) (fun hc => ⟨fun q => absurd rfl q, fun _ => hq0 (fun q => hc q.1)⟩)
    have hq := hq1 h1 ⟨hc, by omega, by omega⟩ x1
    have a1 := cWld_e x1 a
    generalize fitX W G A B k w s = P at f1 hq
    have hcn := cn_le P ((G + 1) ^ W)
    unfold spanV at hq
    obtain ⟨ex, hx⟩ := n_of (x := x) (by omega)
    generalize x.toInt.toNat = q at ex hx hq
    subst ex
    rw [f1.1]
    refine ⟨fun c3 => ?_, fun c3 => ?_⟩
    · rw [if_neg (fun z => c3 (by rw [z]; rfl))] at hq
      refine c_leastAt a1 ok f1 hx (c_greatestAt a1 ok f1 hx ?_)
      have h9 := lsF_9 P q o4 ((G + 1) ^ W)
      have h8 := gsF_9 P q o4 ((G + 1) ^ W)
      rw [show (10 : Int32) = nI 10 from rfl, nI_mul (by omega) (by omega) (by omega), nI_add]
      exact hq
    · have c3 := (nI_eq (b := 0) (by omega) (by omega)).mp c3
      rw [if_pos c3] at hq
      exact hq
theorem m_span {h : hp} {v W G D : Nat} {A : Nat → Int32} {B : Nat → Int64} {k w s x : Int32} {Q : Int32 → hp → Prop} (t : mAt h v) (a : mWld v h W G) (ok : okW W G) (d : mTold h D A B) (hD : D ≤ 20) (hq1 : ∀ h1, isCP D W k w s x → eqE mScr h h1 → Q (spanV (fitX W G A B k w s) G ((G + 1) ^ W) x) h1) (hq0 : ¬ isCP D W k w s x → Q (-1) h) : w_X12_span h k w s x Q := by
  obtain ⟨o1, o2, o3, o4⟩ := id ok
  have hM := pow_W (G := G) (j := W) o4 o2
  have z0 : (0 : Int64).toInt = 0 := rfl
  have h1 : (1 : Int32).toInt = 1 := rfl
  have hs := t.2
  have eW := n_toInt (n := W) (by omega)
  have eg : gI h 19 (ix (gI h 0 18)) = nI W := by rw [t.1, ix_n (by omega), a.1]
  have e2 : (nI W - 1).toInt = (W : Int) - 1 := by rw [t_sub (by rw [eW, h1]; omega) (by rw [eW, h1]; omega), eW, h1]
  unfold w_X12_span w_X12_span_0
  rw [eg]
  refine m_isAsked d hD (fun hc => ⟨fun q => absurd q (by decide), fun _ => ⟨by rw [t.1]; exact in_n hs (by omega), ?_⟩⟩) (fun hc => ⟨fun _ => hq0 (fun q => hc q.1), fun q => absurd rfl q⟩)
  refine m_in (fun c => ⟨fun _ => ?_, fun q => absurd q (by decide)⟩) (fun c => ⟨fun q => absurd rfl q, fun _ => hq0 (fun q => c ?_)⟩)
  · rw [tL_int, tL_int, e2, z0] at c
    refine m_fillsX t a ok d hD hc (fun h1 x1 f1 => ?_)
    have hq := hq1 h1 ⟨hc, by omega, by omega⟩ x1
    generalize fitX W G A B k w s = P at f1 hq
    have hcn := cn_le P ((G + 1) ^ W)
    unfold spanV at hq
    obtain ⟨ex, hx⟩ := n_of (x := x) (by omega)
    generalize x.toInt.toNat = q at ex hx hq
    subst ex
    refine ⟨fun c3 => ?_, fun c3 => ?_⟩
    · have c3 : ¬ cn P ((G + 1) ^ W) = 0 := fun z => c3 (by rw [z]; rfl)
      rw [if_neg c3] at hq
      refine m_spanOf (mAt_e x1 t) (mWld_e x1 a) ok f1 hx ?_
      unfold ls10
      rw [if_neg c3]
      exact hq
    · have c3 := (nI_eq (b := 0) (by omega) (by omega)).mp c3
      rw [if_pos c3] at hq
      exact hq
  · rw [tL_int, tL_int, e2, z0]
    have := q.2
    omega
/-! sums of bits -/
noncomputable def bsP (p : Nat → Prop) : Nat → Nat
  | 0 => 0
  | a + 1 => bsP p a + ifC (p a) (2 ^ a) 0
theorem bsP_lt (p : Nat → Prop) : ∀ k, bsP p k < 2 ^ k
  | 0 => by show 0 < 1; decide
  | k + 1 => by
    have h1 := bsP_lt p k
    show bsP p k + ifC (p k) (2 ^ k) 0 < 2 ^ (k + 1)
    rw [Nat.pow_succ]
    by_cases c : p k
    · rw [ifC_pos c]; omega
    · rw [ifC_neg c]; omega
theorem bsP_congr {p p' : Nat → Prop} : ∀ k, (∀ a, a < k → (p a ↔ p' a)) → bsP p k = bsP p' k
  | 0, _ => rfl
  | k + 1, h => by
    show bsP p k + ifC (p k) (2 ^ k) 0 = bsP p' k + ifC (p' k) (2 ^ k) 0
    rw [bsP_congr k (fun a ha => h a (by omega))]
    by_cases c : p k
    · rw [ifC_pos c, ifC_pos ((h k (by omega)).mp c)]
    · rw [ifC_neg c, ifC_neg (fun q => c ((h k (by omega)).mpr q))]
theorem bsP_all : ∀ k, bsP (fun _ => True) k + 1 = 2 ^ k
  | 0 => rfl
  | k + 1 => by
    show bsP (fun _ => True) k + ifC True (2 ^ k) 0 + 1 = 2 ^ (k + 1)
    have := bsP_all k
    rw [ifC_pos trivial, Nat.pow_succ]
    omega
theorem or_2 {a k : Nat} (h : a < 2 ^ k) : a ||| 2 ^ k = a + 2 ^ k := by
  have := Nat.two_pow_add_eq_or_of_lt h 1
  rw [Nat.mul_one] at this
  rw [Nat.add_comm, this, Nat.or_comm]
theorem bsP_bit (p : Nat → Prop) (j : Nat) : ∀ k, (bsP p k).testBit j = true ↔ j < k ∧ p j
  | 0 => by
    show (0 : Nat).testBit j = true ↔ _
    rw [Nat.zero_testBit]
    exact ⟨fun h => absurd h (by decide), fun h => by omega⟩
  | k + 1 => by
    have ih := bsP_bit p j k
    have hl := bsP_lt p k
    show (bsP p k + ifC (p k) (2 ^ k) 0).testBit j = true ↔ _
    by_cases c : p k
    · rw [ifC_pos c, ← or_2 hl, Nat.testBit_or, Bool.or_eq_true, ih, Nat.testBit_two_pow]
      refine ⟨fun h => ?_, fun h => ?_⟩
      · rcases h with h | h
        · exact ⟨by omega, h.2⟩
        · have e : k = j := of_decide_eq_true h
          subst e
          exact ⟨by omega, c⟩
      · by_cases e : k = j
        · exact Or.inr (decide_eq_true e)
        · exact Or.inl ⟨by omega, h.2⟩
    · rw [ifC_neg c, Nat.add_zero, ih]
      refine ⟨fun h => ⟨by omega, h.2⟩, fun h => ?_⟩
      by_cases e : k = j
      · subst e; exact absurd h.2 c
      · exact ⟨by omega, h.2⟩
theorem nI_bit {a j : Nat} (ha : a < 2147483648) : (nI a).toBitVec.getLsbD j = (decide (j < 32) && a.testBit j) := by
  show (BitVec.ofNat 32 a).getLsbD j = _
  rw [BitVec.getLsbD_ofNat]
theorem or_nI {a k : Nat} (h : a < 2 ^ k) (hk : k < 31) : nI a ||| jshl 1 (nI k) = nI (a + 2 ^ k) := by
  have h2 : 2 ^ (k + 1) ≤ 2 ^ 31 := Nat.pow_le_pow_right (by decide) (by omega)
  rw [Nat.pow_succ] at h2
  rw [shl1 k hk, ← or_2 h]
  apply Int32.toBitVec_inj.mp
  apply BitVec.eq_of_toNat_eq
  rw [Int32.toBitVec_or, BitVec.toNat_or, nI_bv (by omega), nI_bv (by omega), nI_bv (by rw [or_2 h]; omega)]
theorem andn_nI {p : Nat → Prop} {k a : Nat} (hk : k < 31) (ha : a < 31) : nI (bsP p k) &&& (jshl 1 (nI a) ^^^ (-1)) = nI (bsP (fun j => p j ∧ ¬ j = a) k) := by
  have hb : ∀ q : Nat → Prop, bsP q k < 2147483648 := fun q => by
    have h1 := bsP_lt q k
    have h2 : 2 ^ k ≤ 2 ^ 30 := Nat.pow_le_pow_right (by decide) (by omega)
    omega
  have h3 : 2 ^ a ≤ 2 ^ 30 := Nat.pow_le_pow_right (by decide) (by omega)
  rw [shl1 a ha]
  apply Int32.toBitVec_inj.mp
  apply BitVec.eq_of_getLsbD_eq
  intro j hj
  rw [Int32.toBitVec_and, Int32.toBitVec_xor, BitVec.getLsbD_and, BitVec.getLsbD_xor, nI_bit (hb _), nI_bit (hb _), nI_bit (by omega), show (-1 : Int32).toBitVec = BitVec.allOnes 32 from rfl, BitVec.getLsbD_allOnes, decide_eq_true hj]
  simp only [Bool.true_and, Bool.xor_true]
  rw [Bool.eq_iff_iff, Bool.and_eq_true, bsP_bit, bsP_bit, Nat.testBit_two_pow]
  refine ⟨fun h => ⟨h.1.1, h.1.2, fun e => ?_⟩, fun h => ⟨⟨h.1, h.2.1⟩, ?_⟩⟩
  · have := h.2
    rw [decide_eq_true e.symm] at this
    exact absurd this (by decide)
  · rw [decide_eq_false (fun e => h.2.2 e.symm)]
    rfl
/-! liars -/
def soP (P : Nat → Bool) (W G M : Nat) (A : Nat → Int32) (B : Nat → Int64) (a : Nat) : Prop := ∃ i, i < M ∧ P i = true ∧ wcV W G i (A a).toInt64 = B a
noncomputable def liV (P : Nat → Bool) (W G M : Nat) (A : Nat → Int32) (B : Nat → Int64) (k : Nat) : Int32 := if cn P M = 0 then 0 else nI (bsP (fun a => ¬ soP P W G M A B a) k)
theorem c_isSo {h : hp} {W G a : Nat} {P : Nat → Bool} {A : Nat → Int32} {B : Nat → Int64} {Q : Int32 → Prop} (ok : okW W G) (vl : cVal h W G (A a).toInt64) (fi : cFit h P ((G + 1) ^ W)) (hq1 : soP P W G ((G + 1) ^ W) A B a → Q 1) (hq0 : ¬ soP P W G ((G + 1) ^ W) A B a → Q 0) : w_X1_isSoForSome h (B a) Q := by
  obtain ⟨o1, o2, o3, o4⟩ := id ok
  have hM := pow_W (G := G) (j := W) o4 o2
  unfold w_X1_isSoForSome w_X1_isSoForSome_0 w_X1_isSoForSome_2
  intro X hX
  unfold cVal at vl
  generalize (G + 1) ^ W = M at hM fi vl hq1 hq0
  have hc := cn_le P M
  have key : ∀ n j : Nat, n + j = M → (∀ i, i < j → P i = true → ¬ wcV W G i (A a).toInt64 = B a) → X (nI (cn P j)) := by
    intro n
    induction n with
    | zero =>
      intro j hj no
      have ej : j = M := by omega
      subst ej
      apply hX
      unfold w_X1_isSoForSome_b2
      rw [fi.1]
      exact ⟨fun _ => hq0 (fun ⟨i, h1, h2, h3⟩ => no i h1 h2 h3), fun c => absurd (nI_le (Nat.le_refl _) (by omega)) c⟩
    | succ n ih =>
      intro j hj no
      have nxt := ih (j + 1) (by omega)
      by_cases pj : P j = true
      · have e : cn P (j + 1) = cn P j + 1 := by
          show cn P j + _ = _
          rw [if_pos pj]
        have hl := cn_lt (P := P) (show j < M by omega) pj
        rw [e] at nxt
        apply hX
        unfold w_X1_isSoForSome_b2
        rw [fi.1, ix_n (by omega), fi.2 j (by omega) pj, ix_n (by omega), vl j (by omega)]
        refine ⟨fun c => absurd c (nI_ge (by omega) (by omega)), fun _ => ⟨in_n (by omega) (by omega), in_n (by omega) (by omega), fun c u eu => ?_, fun c => hq1 ⟨j, by omega, pj, c⟩⟩⟩
        rw [← nI_succ] at eu
        subst eu
        refine nxt (fun i hi hpi => ?_)
        rcases Nat.lt_or_ge i j with q | q
        · exact no i q hpi
        · rw [show i = j from by omega]; exact c
      · have e : cn P (j + 1) = cn P j := by
          show cn P j + _ = _
          rw [if_neg pj, Nat.add_zero]
        rw [e] at nxt
        refine nxt (fun i hi hpi => ?_)
        rcases Nat.lt_or_ge i j with q | q
        · exact no i q hpi
        · exact absurd (by rw [show j = i from by omega]; exact hpi) pj
  exact key M 0 (by omega) (fun i hi => by omega)
theorem cFit_v {h h1 : hp} {P : Nat → Bool} {M : Nat} (e : eqE vScr h h1) (f : cFit h P M) : cFit h1 P M := ⟨by rw [eqE_I e (by unfold vScr; omega)]; exact f.1, fun i hi hpi => by rw [eqE_I e (by unfold vScr; omega)]; exact f.2 i hi hpi⟩
theorem c_liars {h : hp} {W G D : Nat} {A : Nat → Int32} {B : Nat → Int64} {k w s : Int32} {Q : Int32 → hp → Prop} (a : cWld h W G) (nz : cNz h W G) (ok : okW W G) (d : cTold 51 h D A B) (hD : D ≤ 20) (hq1 : ∀ h1, isC D k w s → eqE cScr h h1 → Q (liV (fitX W G A B k w s) W G ((G + 1) ^ W) A B k.toInt.toNat) h1) (hq0 : ¬ isC D k w s → Q (-1) h) : w_X11_liars h k w s Q := by
  obtain ⟨o1, o2, o3, o4⟩ := id ok
  have hM := pow_W (G := G) (j := W) o4 o2
  unfold w_X11_liars w_X11_liars_0
  refine c_choose a nz ok d hD (fun h1 hc x1 f1 => ⟨fun q => absurd q (by decide), fun _ => ?_⟩) (fun hc => ⟨fun _ => hq0 hc, fun q => absurd rfl q⟩)
  have hq := fun h2 (e : eqE cScr h h2) => hq1 h2 hc e
  have hq1 := True.intro
  have hq0 := True.intro
  obtain ⟨ek, hk⟩ := n_of hc.1.1
  have hkD : k.toInt.toNat ≤ D := by have := hc.1.2; omega
  generalize fitX W G A B k w s = P at f1 hq
  generalize k.toInt.toNat = K at ek hk hkD hq
  subst ek
  have hcn := cn_le P ((G + 1) ^ W)
  unfold w_X1_sureLiars w_X1_sureLiars_0 w_X1_sureLiars_5
  intro X hX
  unfold liV at hq
  by_cases c0 : cn P ((G + 1) ^ W) = 0
  · rw [if_pos c0] at hq
    apply hX
    refine ⟨fun _ => hq h1 x1, fun _ => ⟨fun _ => hq h1 x1, fun c => absurd ?_ c⟩⟩
    show gI h1 71 1 ≤ 0
    rw [f1.1, c0]
    decide
  · rw [if_neg c0] at hq
    have key : ∀ (n t : Nat) (g : hp), n + t = K → eqE cScr h g → cFit g P ((G + 1) ^ W) → X (nI (bsP (fun a => ¬ soP P W G ((G + 1) ^ W) A B a) t), nI t, g) := by
      intro n
      induction n with
      | zero =>
        intro t g ht xg fg
        have et : t = K := by omega
        subst et
        apply hX
        exact ⟨fun _ => hq g xg, fun c => absurd (nI_le (Nat.le_refl _) (by omega)) c⟩
      | succ n ih =>
        intro t g ht xg fg
        have dg := cTold_e xg d
        have in1 : vp_in (nI t) 20 := in_n (by omega) (by omega)
        apply hX
        unfold w_X1_sureLiars_b5
        rw [fg.1, ix_n (by omega), (dg.2 t (by omega)).1]
        refine ⟨fun c => absurd c (nI_ge (by omega) (by omega)), fun _ => ⟨fun c => absurd ((nI_leI (b := 0) (by omega) (by omega)).mp c) (by omega), fun _ => ⟨in1, c_comeBy (cWld_e xg a) ok (fun h3 x3 v3 => ⟨in1, ?_⟩)⟩⟩⟩
        have xc := eqE_w vScr_c x3
        have f3 := cFit_v x3 fg
        have nxt := ih (t + 1) h3 (by omega) (eqE_trans xg xc) f3
        rw [(cTold_e xc dg).2 t (by omega) |>.2]
        have eb : bsP (fun a => ¬ soP P W G ((G + 1) ^ W) A B a) (t + 1) = bsP (fun a => ¬ soP P W G ((G + 1) ^ W) A B a) t + ifC (¬ soP P W G ((G + 1) ^ W) A B t) (2 ^ t) 0 := rfl
        rw [eb] at nxt
        refine c_isSo ok v3 f3 (fun so => ⟨fun _ u eu => ?_, fun q => absurd q (by decide)⟩) (fun so => ⟨fun q => absurd rfl q, fun _ y ey u eu => ?_⟩)
        · rw [← nI_succ] at eu
          subst eu
          rw [ifC_neg (fun q => q so), Nat.add_zero] at nxt
          exact nxt
        · have ey : y = nI (bsP (fun a => ¬ soP P W G ((G + 1) ^ W) A B a) t) ||| jshl 1 (nI t) := ey
          rw [or_nI (bsP_lt _ t) (by omega)] at ey
          rw [← nI_succ] at eu
          subst eu ey
          rw [ifC_pos so] at nxt
          exact nxt
    exact key K 0 h1 (by omega) x1 f1
theorem m_liars {h : hp} {v W G D : Nat} {A : Nat → Int32} {B : Nat → Int64} {k w s : Int32} {Q : Int32 → hp → Prop} (t : mAt h v) (a : mWld v h W G) (ok : okW W G) (d : mTold h D A B) (hD : D ≤ 20) (hq1 : ∀ h1, isC D k w s → eqE mScr h h1 → Q (liV (fitX W G A B k w s) W G ((G + 1) ^ W) A B k.toInt.toNat) h1) (hq0 : ¬ isC D k w s → Q (-1) h) : w_X12_liars h k w s Q := by
  obtain ⟨o1, o2, o3, o4⟩ := id ok
  have hM := pow_W (G := G) (j := W) o4 o2
  unfold w_X12_liars w_X12_liars_0
  refine m_isAsked d hD (fun hc => ⟨fun _ => m_fillsX t a ok d hD hc (fun h1 x1 f1 => ?_), fun q => absurd q (by decide)⟩) (fun hc => ⟨fun q => absurd rfl q, fun _ => hq0 hc⟩)
  have hq := hq1 h1 hc x1
  have hq1 := True.intro
  have hq0 := True.intro
  obtain ⟨ek, hk⟩ := n_of hc.1.1
  have hkD : k.toInt.toNat ≤ D := by have := hc.1.2; omega
  generalize fitX W G A B k w s = P at f1 hq
  generalize k.toInt.toNat = K at ek hk hkD hq
  subst ek
  have t1 := mAt_e x1 t
  have a1 := mWld_e x1 a
  have d1 := mTold_e x1 d
  have wa : ∀ {R : Int32 → Prop}, R (nI ((G + 1) ^ W)) → w_X12_worldAll h1 R := fun hr => m_worldAll t1 a1 ok hr
  unfold liV at hq
  generalize (G + 1) ^ W = M at hM f1 hq wa
  have hcn := cn_le P M
  -- all worlds, from the set that none has told yet
  have loop : ∀ (st : (Nat → Prop) → Int32), (∀ p, cn P M = 0 → st p = 0) → (∀ p, ¬ cn P M = 0 → st p = nI (bsP p K)) → w_X12_liars_36 Q (nI K) h1 (st (fun _ => True)) 0 := by
    intro st st0 st1
    unfold w_X12_liars_36
    intro X hX
    have key : ∀ n j : Nat, n + j = M → X (st (fun a => ¬ ∃ i, i < j ∧ P i = true ∧ wcV W G i (A a).toInt64 = B a), nI j) := by
      intro n
      induction n with
      | zero =>
        intro j hj
        have ej : j = M := by omega
        subst ej
        apply hX
        refine wa ⟨fun _ => ?_, fun c => absurd (nI_le (Nat.le_refl _) (by omega)) c⟩
        by_cases c0 : cn P j = 0
        · rw [if_pos c0] at hq
          show Q (st _) h1
          rw [st0 _ c0]
          exact hq
        · rw [if_neg c0] at hq
          show Q (st _) h1
          rw [st1 _ c0]
          exact hq
      | succ n ih =>
        intro j hj
        have nxt := ih (j + 1) (by omega)
        apply hX
        unfold w_X12_liars_b36
        rw [ix_n (by omega), f1 j (by omega)]
        refine wa ⟨fun c => absurd c (nI_ge (by omega) (by omega)), fun _ => ⟨in_n (by omega) (by omega), fun c u eu => ?_, fun c => ?_⟩⟩
        · have pj : ¬ P j = true := fun z => by rw [if_pos z] at c; exact absurd c (by decide)
          rw [← nI_succ] at eu
          subst eu
          have e : (fun a => ¬ ∃ i, i < j + 1 ∧ P i = true ∧ wcV W G i (A a).toInt64 = B a) = (fun a => ¬ ∃ i, i < j ∧ P i = true ∧ wcV W G i (A a).toInt64 = B a) := by
            funext a
            refine propext (not_congr ⟨fun ⟨i, h1, h2⟩ => ⟨i, ?_, h2⟩, fun ⟨i, h1, h2⟩ => ⟨i, by omega, h2⟩⟩)
            rcases Nat.lt_or_ge i j with q | q
            · exact q
            · exact absurd (by rw [show j = i from by omega]; exact h2.1) pj
          rw [e] at nxt
          exact nxt
        · have pj : P j = true := by
            by_cases z : P j = true
            · exact z
            · rw [if_neg z] at c; exact absurd rfl c
          have c0 : ¬ cn P M = 0 := by have := cn_lt (P := P) (show j < M by omega) pj; omega
          unfold w_X12_liars_58
          intro Y hY
          have key2 : ∀ m b : Nat, m + b = K → Y (nI (bsP (fun a => (¬ ∃ i, i < j ∧ P i = true ∧ wcV W G i (A a).toInt64 = B a) ∧ ¬ (a < b ∧ wcV W G j (A a).toInt64 = B a)) K), nI b) := by
            intro m
            induction m with
            | zero =>
              intro b hb
              have eb : b = K := by omega
              subst eb
              apply hY
              refine ⟨fun _ u eu => ?_, fun c => absurd (nI_le (Nat.le_refl _) (by omega)) c⟩
              rw [← nI_succ] at eu
              subst eu
              rw [st1 _ c0] at nxt
              have e := bsP_congr (p := fun a => ¬ ∃ i, i < j + 1 ∧ P i = true ∧ wcV W G i (A a).toInt64 = B a) (p' := fun a => (¬ ∃ i, i < j ∧ P i = true ∧ wcV W G i (A a).toInt64 = B a) ∧ ¬ (a < b ∧ wcV W G j (A a).toInt64 = B a)) b (fun a ha => by
                refine ⟨fun h => ⟨fun ⟨i, h1, h2⟩ => h ⟨i, by omega, h2⟩, fun h2 => h ⟨j, by omega, pj, h2.2⟩⟩, fun ⟨h, h'⟩ ⟨i, h1, h2, h3⟩ => ?_⟩
                rcases Nat.lt_or_ge i j with q | q
                · exact h ⟨i, q, h2, h3⟩
                · exact h' ⟨ha, by rw [← show i = j from by omega]; exact h3⟩)
              rw [e] at nxt
              exact nxt
            | succ m ih2 =>
              intro b hb
              have nx := ih2 (b + 1) (by omega)
              apply hY
              refine ⟨fun c => absurd c (nI_ge (by omega) (by omega)), fun _ => m_isRight t1 a1 ok d1 hD (by omega) (by omega) (fun rt => ⟨fun q => absurd q (by decide), fun _ y ey u eu => ?_⟩) (fun rt => ⟨fun _ u eu => ?_, fun q => absurd rfl q⟩)⟩
              · have ey : y = nI (bsP (fun a => (¬ ∃ i, i < j ∧ P i = true ∧ wcV W G i (A a).toInt64 = B a) ∧ ¬ (a < b ∧ wcV W G j (A a).toInt64 = B a)) K) &&& (jshl 1 (nI b) ^^^ (-1)) := ey
                have eu : u = nI b + 1 := eu
                rw [andn_nI (by omega) (by omega)] at ey
                rw [← nI_succ] at eu
                subst eu ey
                have e := bsP_congr (p := fun a => (¬ ∃ i, i < j ∧ P i = true ∧ wcV W G i (A a).toInt64 = B a) ∧ ¬ (a < b + 1 ∧ wcV W G j (A a).toInt64 = B a)) (p' := fun a => ((¬ ∃ i, i < j ∧ P i = true ∧ wcV W G i (A a).toInt64 = B a) ∧ ¬ (a < b ∧ wcV W G j (A a).toInt64 = B a)) ∧ ¬ a = b) K (fun a ha => by
                  refine ⟨fun ⟨h, h'⟩ => ⟨⟨h, fun q => h' ⟨by omega, q.2⟩⟩, fun q => h' ⟨by omega, by rw [q]; exact rt⟩⟩, fun ⟨⟨h, h'⟩, h''⟩ => ⟨h, fun q => h' ⟨?_, q.2⟩⟩⟩
                  have := q.1
                  omega)
                rw [e] at nx
                exact nx
              · have eu : u = nI b + 1 := eu
                rw [← nI_succ] at eu
                subst eu
                have e := bsP_congr (p := fun a => (¬ ∃ i, i < j ∧ P i = true ∧ wcV W G i (A a).toInt64 = B a) ∧ ¬ (a < b + 1 ∧ wcV W G j (A a).toInt64 = B a)) (p' := fun a => (¬ ∃ i, i < j ∧ P i = true ∧ wcV W G i (A a).toInt64 = B a) ∧ ¬ (a < b ∧ wcV W G j (A a).toInt64 = B a)) K (fun a ha => by
                  refine ⟨fun ⟨h, h'⟩ => ⟨h, fun q => h' ⟨by omega, q.2⟩⟩, fun ⟨h, h'⟩ => ⟨h, fun q => h' ⟨?_, q.2⟩⟩⟩
                  rcases Nat.lt_or_ge a b with z | z
                  · exact z
                  · have e : a = b := by have := q.1; omega
                    exact absurd (by rw [← e]; exact q.2) rt)
                rw [e] at nx
                exact nx
          have := key2 K 0 (by omega)
          have e := bsP_congr (p := fun a => (¬ ∃ i, i < j ∧ P i = true ∧ wcV W G i (A a).toInt64 = B a) ∧ ¬ (a < 0 ∧ wcV W G j (A a).toInt64 = B a)) (p' := fun a => ¬ ∃ i, i < j ∧ P i = true ∧ wcV W G i (A a).toInt64 = B a) K (fun a ha => ⟨fun h => h.1, fun h => ⟨h, fun q => absurd q.1 (by omega)⟩⟩)
          rw [e, ← st1 _ c0] at this
          exact this
    have := key M 0 (by omega)
    have e : (fun a => ¬ ∃ i, i < 0 ∧ P i = true ∧ wcV W G i (A a).toInt64 = B a) = (fun _ => True) := by
      funext a
      exact propext ⟨fun _ => trivial, fun _ ⟨i, h, _⟩ => by omega⟩
    rw [e] at this
    exact this
  have h2k : 2 ^ K ≤ 2 ^ 20 := Nat.pow_le_pow_right (by decide) (by omega)
  have hb := bsP_all K
  refine ⟨fun c y ey => ?_, fun c => ?_⟩
  · have c0 : ¬ cn P M = 0 := fun q => c (by rw [q]; rfl)
    have ey : y = nI (bsP (fun _ => True) K) := by
      rw [ey, shl1 K (by omega), ← hb, nI_pred]
    have := loop (fun p => nI (bsP p K)) (fun p q => absurd q c0) (fun p _ => rfl)
    rw [ey]
    exact this
  · have c0 := (nI_eq (b := 0) (by omega) (by omega)).mp c
    exact loop (fun _ => 0) (fun _ _ => rfl) (fun p q => absurd c0 q)
/-! next -/
def ctF (f : Nat → Int64) (P : Nat → Bool) : Nat → Int64 → Nat
  | 0, _ => 0
  | i + 1, k => ctF f P i k + (if P i = true ∧ f i = k then 1 else 0)
def moF (f : Nat → Int64) (P : Nat → Bool) : Nat → Nat
  | 0 => 0
  | i + 1 => if P i = true then (if moF f P i < ctF f P i (f i) + 1 then ctF f P i (f i) + 1 else moF f P i) else moF f P i
theorem ctF_le (f : Nat → Int64) (P : Nat → Bool) (k : Int64) : ∀ i, ctF f P i k ≤ cn P i
  | 0 => Nat.le_refl _
  | i + 1 => by
    have := ctF_le f P k i
    show ctF f P i k + _ ≤ cn P i + _
    by_cases c : P i = true ∧ f i = k
    · rw [if_pos c, if_pos c.1]; omega
    · rw [if_neg c]; omega
theorem moF_le (f : Nat → Int64) (P : Nat → Bool) : ∀ i, moF f P i ≤ cn P i
  | 0 => Nat.le_refl _
  | i + 1 => by
    have h1 := moF_le f P i
    have h2 := ctF_le f P (f i) i
    show (if P i = true then (if moF f P i < ctF f P i (f i) + 1 then ctF f P i (f i) + 1 else moF f P i) else moF f P i) ≤ cn P i + _
    by_cases c : P i = true
    · rw [if_pos c, if_pos c]
      split <;> omega
    · rw [if_neg c]; omega
theorem moF_mono (f : Nat → Int64) (P : Nat → Bool) {i j : Nat} (h : i ≤ j) : moF f P i ≤ moF f P j := by
  induction j with
  | zero => rw [show i = 0 from by omega]; exact Nat.le_refl _
  | succ j ih =>
    rcases Nat.lt_or_ge j i with q | q
    · rw [show i = j + 1 from by omega]; exact Nat.le_refl _
    · have := ih q
      show moF f P i ≤ (if P j = true then (if moF f P j < ctF f P j (f j) + 1 then ctF f P j (f j) + 1 else moF f P j) else moF f P j)
      split
      · split <;> omega
      · exact this
theorem moF_pos (f : Nat → Int64) (P : Nat → Bool) : ∀ M, 0 < cn P M → 0 < moF f P M
  | 0, h => absurd h (by unfold cn; omega)
  | M + 1, h => by
    have h : 0 < cn P M + (if P M = true then 1 else 0) := h
    show 0 < (if P M = true then (if moF f P M < ctF f P M (f M) + 1 then ctF f P M (f M) + 1 else moF f P M) else moF f P M)
    by_cases c : P M = true
    · rw [if_pos c]; split <;> omega
    · rw [if_neg c] at h ⊢
      exact moF_pos f P M (by omega)
/-- what the class's counting keeps -/
def nScr (a _j : Nat) : Prop := a = 65 ∨ a = 68 ∨ a = 69 ∨ a = 70 ∨ a = 73
theorem nScr_c : ∀ a j, nScr a j → cScr a j := fun a j h => by unfold nScr at h; unfold cScr; omega
theorem cFit_n {h h1 : hp} {P : Nat → Bool} {M : Nat} (e : eqE nScr h h1) (f : cFit h P M) : cFit h1 P M := ⟨by rw [eqE_I e (by unfold nScr; omega)]; exact f.1, fun i hi hpi => by rw [eqE_I e (by unfold nScr; omega)]; exact f.2 i hi hpi⟩
def cTal (f : Nat → Int64) (P : Nat → Bool) (M z j : Nat) (g : hp) (S : Int64 → Option Nat) : Prop :=
  cTab z g S (cn P j) ∧ (∀ k l, S k = some l → gI g 73 l = nI (ctF f P j k) ∧ ∃ i, i < j ∧ P i = true ∧ cn P i = l ∧ f i = k) ∧ (∀ k, S k = none → ctF f P j k = 0) ∧ ∀ l, cn P j ≤ l → l < cn P M → gI g 73 l = 0
theorem c_mostAlike {h : hp} {W G tm : Nat} {P : Nat → Bool} {x : Int32} {Q : Int32 → hp → Prop} (a : cWld h W G) (ok : okW W G) (fi : cFit h P ((G + 1) ^ W)) (htm : tm ≤ 10001) (hq : ∀ r h1, eqE nScr h h1 → (r = moF (wcF W G x.toInt64) P ((G + 1) ^ W) ∨ (tm ≤ r ∧ r ≤ moF (wcF W G x.toInt64) P ((G + 1) ^ W))) → Q (nI r) h1) : w_X1_mostAlike h x (nI tm) Q := by
  obtain ⟨o1, o2, o3, o4⟩ := id ok
  have hM := pow_W (G := G) (j := W) o4 o2
  unfold w_X1_mostAlike w_X1_mostAlike_0
  refine c_comeBy a ok (fun h1 x1 v1 => ?_)
  have f1 := cFit_v x1 fi
  have xn1 : eqE nScr h h1 := eqE_w (fun a j q => Or.inl q) x1
  unfold cVal at v1
  have hc := cn_le P ((G + 1) ^ W)
  rw [f1.1]
  refine c_clear (by omega) (fun z h2 hz hmz t2 x2 => ?_)
  have xn2 : eqE nScr h h2 := eqE_trans xn1 (eqE_w (fun a j q => by unfold tScr at q; unfold nScr; omega) x2)
  have f2 : cFit h2 P ((G + 1) ^ W) := ⟨by rw [eqE_I x2 (by unfold tScr; omega)]; exact f1.1, fun i hi hpi => by rw [eqE_I x2 (by unfold tScr; omega)]; exact f1.2 i hi hpi⟩
  have v2 : ∀ i, i < (G + 1) ^ W → gL h2 65 i = wcF W G x.toInt64 i := fun i hi => by rw [eqE_L x2 (by unfold tScr; omega)]; exact v1 i hi
  refine c_fillR (n := cn P ((G + 1) ^ W)) (by omega) (by omega) f2.1 ?_
  have xn3 : eqE nScr h (fillI 73 0 h2 (cn P ((G + 1) ^ W))) := eqE_fill xn2 (fun j _ => by unfold nScr; omega)
  have f3 : cFit (fillI 73 0 h2 (cn P ((G + 1) ^ W))) P ((G + 1) ^ W) := ⟨by rw [fillI_I, if_neg (by omega)]; exact f2.1, fun i hi hpi => by rw [fillI_I, if_neg (by omega)]; exact f2.2 i hi hpi⟩
  have v3 : ∀ i, i < (G + 1) ^ W → gL (fillI 73 0 h2 (cn P ((G + 1) ^ W))) 65 i = wcF W G x.toInt64 i := fun i hi => by rw [fillI_L]; exact v2 i hi
  have t3 : cTal (wcF W G x.toInt64) P ((G + 1) ^ W) z 0 (fillI 73 0 h2 (cn P ((G + 1) ^ W))) (fun _ => none) := by
    refine ⟨?_, fun k l hs => absurd hs (by simp), fun k _ => rfl, fun l _ hl => by rw [fillI_I, if_pos ⟨rfl, hl⟩]⟩
    have g1 : ∀ p, gI (fillI 73 0 h2 (cn P ((G + 1) ^ W))) 70 p = gI h2 70 p := fun p => by rw [fillI_I, if_neg (by omega)]
    have g2 : gL (fillI 73 0 h2 (cn P ((G + 1) ^ W))) 69 = gL h2 69 := by funext p; rw [fillI_L]
    unfold cTab
    rw [g2]
    simp only [g1]
    exact ⟨by rw [fillI_I, if_neg (by omega)]; exact t2.1, t2.2⟩
  generalize fillI 73 0 h2 (cn P ((G + 1) ^ W)) = h3 at xn3 f3 v3 t3
  unfold w_X1_mostAlike_41
  intro X hX
  generalize wcF W G x.toInt64 = f at v3 t3 hq
  generalize (G + 1) ^ W = M at hM f3 v3 t3 hq hc hmz
  have key : ∀ (n j : Nat) (g : hp) (S : Int64 → Option Nat), n + j = M → eqE nScr h g → cFit g P M → (∀ i, i < M → gL g 65 i = f i) → cTal f P M z j g S → X (nI (moF f P j), nI (cn P j), g) := by
    intro n
    induction n with
    | zero =>
      intro j g S hj xg fg vg tg
      have ej : j = M := by omega
      subst ej
      apply hX
      unfold w_X1_mostAlike_b41
      rw [fg.1]
      exact ⟨fun _ => hq _ g xg (Or.inl rfl), fun c => absurd (nI_le (Nat.le_refl _) (by omega)) c⟩
    | succ n ih =>
      intro j g S hj xg fg vg tg
      by_cases pj : P j = true
      · have e : cn P (j + 1) = cn P j + 1 := by
          show cn P j + _ = _
          rw [if_pos pj]
        have hl := cn_lt (P := P) (show j < M by omega) pj
        have hmo := moF_le f P j
        have hct := ctF_le f P (f j) j
        have nxt := ih (j + 1)
        rw [e] at nxt
        have emo : moF f P (j + 1) = if moF f P j < ctF f P j (f j) + 1 then ctF f P j (f j) + 1 else moF f P j := by
          show (if P j = true then _ else _) = _
          rw [if_pos pj]
        rw [emo] at nxt
        have in1 : vp_in (nI (cn P j)) 10000 := in_n (by omega) (by omega)
        apply hX
        unfold w_X1_mostAlike_b41
        rw [fg.1, ix_n (by omega), fg.2 j (by omega) pj, ix_n (by omega), vg j (by omega)]
        refine ⟨fun c => absurd c (nI_ge (by omega) (by omega)), fun _ => ⟨fun c => ?_, fun c => ⟨in1, in_n (by omega) (by omega), ?_⟩⟩⟩
        · have c := (nI_leI (by omega) (by omega)).mp c
          exact hq _ g xg (Or.inr ⟨c, moF_mono f P (by omega)⟩)
        · obtain ⟨ta, tb, tc, td⟩ := tg
          have ecs : ∀ k, ctF f P (j + 1) k = ctF f P j k + (if f j = k then 1 else 0) := fun k => by
            show ctF f P j k + (if P j = true ∧ f j = k then 1 else 0) = _
            by_cases q : f j = k
            · rw [if_pos q, if_pos ⟨pj, q⟩]
            · rw [if_neg q, if_neg (fun z => q z.2)]
          -- behind the leader l: one more
          have fin : ∀ (l : Nat) (g6 : hp) (S' : Int64 → Option Nat), l < 10000 → eqE nScr h g6 → cFit g6 P M → (∀ i, i < M → gL g6 65 i = f i) → cTab z g6 S' (cn P j + 1) → gI g6 73 l = nI (ctF f P j (f j)) → (S' (f j) = some l) → (∀ k l', ¬ k = f j → S' k = some l' → ¬ l' = l ∧ gI g6 73 l' = nI (ctF f P j k) ∧ ∃ i, i < j ∧ P i = true ∧ cn P i = l' ∧ f i = k) → (∃ i, i < j + 1 ∧ P i = true ∧ cn P i = l ∧ f i = f j) → (∀ k, ¬ k = f j → S' k = none → ctF f P j k = 0) → (∀ l', cn P j + 1 ≤ l' → l' < cn P M → gI g6 73 l' = 0 ∧ ¬ l' = l) → (vp_in (nI l) 10000 ∧ (vp_in (nI l) 10000 ∧ ∀ h8, h8 = sI g6 73 (ix (nI l)) ((gI g6 73 (ix (nI l))) + 1) → (vp_in (nI l) 10000 ∧ (∀ x3_9, x3_9 = (if nI (moF f P j) < (gI h8 73 (ix (nI l))) then gI h8 73 (ix (nI l)) else nI (moF f P j)) → (∀ x4_10, x4_10 = nI (cn P j) + 1 → (X (x3_9, x4_10, h8))))))) := by
            intro l g6 S' hl6 x6 f6 v6 t6 e6 sl sw so sn sz
            have inl : vp_in (nI l) 10000 := in_n hl6 (by omega)
            refine ⟨inl, inl, fun h8 e8 => ⟨inl, fun y ey u eu => ?_⟩⟩
            rw [ix_n (by omega), e6, ← nI_succ] at e8
            have g8 : gI h8 73 l = nI (ctF f P j (f j) + 1) := by rw [e8]; exact gI_at _ _ _ _
            rw [ix_n (by omega), g8] at ey
            have ey : y = nI (if moF f P j < ctF f P j (f j) + 1 then ctF f P j (f j) + 1 else moF f P j) := by
              rw [ey]
              by_cases q : moF f P j < ctF f P j (f j) + 1
              · rw [if_pos q, if_pos (nI_lt q (by omega))]
              · rw [if_neg q, if_neg (nI_nlt (by omega) (by omega))]
            rw [← nI_succ] at eu
            subst ey eu
            refine nxt h8 S' (by omega) ?_ ?_ (fun i hi => ?_) ⟨?_, fun k l' hs => ?_, fun k hs => ?_, fun l' h1 h2 => ?_⟩
            · rw [e8]; exact eqE_sI x6 (by unfold nScr; omega)
            · refine ⟨?_, fun i hi hpi => ?_⟩
              · rw [e8, gI_o _ _ (by decide)]; exact f6.1
              · rw [e8, gI_o _ _ (by decide)]; exact f6.2 i hi hpi
            · rw [e8, gL_sI]; exact v6 i hi
            · rw [e]
              have q1 : ∀ p, gI h8 70 p = gI g6 70 p := fun p => by rw [e8, gI_o _ _ (by decide)]
              have q2 : gL h8 69 = gL g6 69 := by rw [e8]; rfl
              unfold cTab
              rw [q2]
              simp only [q1]
              exact ⟨by rw [e8, gI_o _ _ (by decide)]; exact t6.1, t6.2⟩
            · rw [ecs]
              by_cases q : k = f j
              · subst q
                rw [sl] at hs
                have el : l = l' := by simpa using hs
                subst el
                rw [if_pos rfl]
                exact ⟨g8, so⟩
              · obtain ⟨w1, w2, i, w3, w4⟩ := sw k l' q hs
                rw [if_neg (fun z => q z.symm), e8, gI_k _ _ w1]
                exact ⟨w2, i, by omega, w4⟩
            · rw [ecs]
              by_cases q : k = f j
              · rw [q, sl] at hs
                exact absurd hs (by simp)
              · rw [if_neg (fun z => q z.symm)]
                exact sn k q hs
            · rw [e] at h1
              rw [e8, gI_k _ _ (sz l' h1 h2).2]
              exact (sz l' h1 h2).1
          refine c_leaderOf hz ta (by omega) (by omega) (fun l hs => ?_) (fun h6 hs t6 x6 => ?_)
          · obtain ⟨b1, i0, b2, b3, b4, b5⟩ := tb _ _ hs
            have hli := cn_lt (P := P) b2 b3
            refine fin l g S (by omega) xg fg vg (cTab_up ta (by omega)) b1 hs (fun k l' hk hs' => ?_) ⟨i0, by omega, b3, b4, b5⟩ (fun k _ hs' => tc k hs') (fun l' h1 h2 => ⟨td l' (by omega) h2, by omega⟩)
            obtain ⟨w1, i, w2, w3, w4, w5⟩ := tb k l' hs'
            refine ⟨fun q => hk ?_, w1, i, w2, w3, w4, w5⟩
            have : i = i0 := cn_inj w3 b3 (by rw [w4, b4, q])
            rw [← w5, this, b5]
          · have xn6 := eqE_trans xg (eqE_w (fun a j q => by unfold tScr at q; unfold nScr; omega) x6)
            refine fin (cn P j) h6 _ (by omega) xn6 ⟨?_, fun i hi hpi => ?_⟩ (fun i hi => ?_) t6 ?_ ?_ (fun k l' hk hs' => ?_) ⟨j, by omega, pj, rfl, rfl⟩ (fun k hk hs' => ?_) (fun l' h1 h2 => ⟨?_, by omega⟩)
            · rw [eqE_I x6 (by unfold tScr; omega)]; exact fg.1
            · rw [eqE_I x6 (by unfold tScr; omega)]; exact fg.2 i hi hpi
            · rw [eqE_L x6 (by unfold tScr; omega)]; exact vg i hi
            · rw [eqE_I x6 (by unfold tScr; omega), td _ (Nat.le_refl _) (by omega), tc _ hs]; rfl
            · unfold setS; rw [if_pos rfl]
            · unfold setS at hs'
              rw [if_neg hk] at hs'
              obtain ⟨w1, i, w2, w3, w4, w5⟩ := tb k l' hs'
              refine ⟨?_, by rw [eqE_I x6 (by unfold tScr; omega)]; exact w1, i, w2, w3, w4, w5⟩
              have := cn_lt (P := P) w2 w3
              omega
            · unfold setS at hs'
              rw [if_neg hk] at hs'
              exact tc k hs'
            · rw [eqE_I x6 (by unfold tScr; omega)]; exact td l' (by omega) h2
      · have e : cn P (j + 1) = cn P j := by
          show cn P j + _ = _
          rw [if_neg pj, Nat.add_zero]
        have emo : moF f P (j + 1) = moF f P j := by
          show (if P j = true then _ else _) = _
          rw [if_neg pj]
        have ecs : ∀ k, ctF f P (j + 1) k = ctF f P j k := fun k => by
          show ctF f P j k + (if P j = true ∧ f j = k then 1 else 0) = _
          rw [if_neg (fun z => pj z.1), Nat.add_zero]
        have nxt := ih (j + 1) g S (by omega) xg fg vg
        rw [e, emo] at nxt
        refine nxt ?_
        obtain ⟨ta, tb, tc, td⟩ := tg
        unfold cTal
        rw [e]
        simp only [ecs]
        refine ⟨ta, fun k l hs => ?_, tc, td⟩
        obtain ⟨w1, i, w2, w3⟩ := tb k l hs
        exact ⟨w1, i, by omega, w3⟩
  exact key M 0 h3 _ (by omega) xn3 f3 v3 t3
/-- the numbers that are looked at -/
def sdF (b : Nat) : Int32 := nI b - 9
theorem sdF_in {b : Nat} (hb : b ≤ 19) : (sdF b).toInt = (b : Int) - 9 := by
  unfold sdF
  have e := n_toInt (n := b) (by omega)
  have e9 : (9 : Int32).toInt = 9 := rfl
  rw [t_sub (by rw [e, e9]; omega) (by rw [e, e9]; omega), e, e9]
theorem sdF_s {b : Nat} (hb : b < 19) : sdF b + 1 = sdF (b + 1) := by
  have h1 := sdF_in (b := b) (by omega)
  have h2 := sdF_in (b := b + 1) (by omega)
  have e1 : (1 : Int32).toInt = 1 := rfl
  refine t_eq.mpr ?_
  rw [t_add (by rw [h1, e1]; omega) (by rw [h1, e1]; omega), h1, h2, e1]
  omega
def mobF (W G : Nat) (P : Nat → Bool) (M b : Nat) : Nat := moF (wcF W G (sdF b).toInt64) P M
def nqF (mo : Nat → Nat) : Nat → Int32 → Nat → Int32 × Nat
  | 0, bs, bm => (bs, bm)
  | n + 1, bs, bm => if mo (19 - (n + 1)) < bm then nqF mo n (sdF (19 - (n + 1))) (mo (19 - (n + 1))) else nqF mo n bs bm
theorem nqF_1 {mo : Nat → Nat} (h : ∀ b, 0 < mo b) : ∀ (n : Nat) (bs : Int32) (bm : Nat), bm ≤ 1 → nqF mo n bs bm = (bs, bm)
  | 0, _, _, _ => rfl
  | n + 1, bs, bm, hb => by
    have := h (19 - (n + 1))
    show (if mo (19 - (n + 1)) < bm then _ else _) = _
    rw [if_neg (by omega)]
    exact nqF_1 h n bs bm hb
theorem c_findQuestion {h : hp} {W G : Nat} {P : Nat → Bool} {Q : hp → Prop} (a : cWld h W G) (ok : okW W G) (fi : cFit h P ((G + 1) ^ W)) (hc0 : 0 < cn P ((G + 1) ^ W)) (hq : ∀ h1, eqE cScr h h1 → gI h1 71 2 = (nqF (mobF W G P ((G + 1) ^ W)) 19 (-9) (cn P ((G + 1) ^ W) + 1)).1 → gI h1 71 3 = nI (nqF (mobF W G P ((G + 1) ^ W)) 19 (-9) (cn P ((G + 1) ^ W) + 1)).2 → Q h1) : w_X1_findQuestion h Q := by
  obtain ⟨o1, o2, o3, o4⟩ := id ok
  have hM := pow_W (G := G) (j := W) o4 o2
  have hc := cn_le P ((G + 1) ^ W)
  have hpos : ∀ b, 0 < mobF W G P ((G + 1) ^ W) b := fun b => moF_pos _ P _ hc0
  unfold w_X1_findQuestion w_X1_findQuestion_0
  intro h1 e1 h2 e2
  have x2 : eqE cScr h h2 := by rw [e2, e1]; exact eqE_sI (eqE_sI (eqE_refl h) (by unfold cScr; omega)) (by unfold cScr; omega)
  have g1 : gI h1 71 1 = nI (cn P ((G + 1) ^ W)) := by rw [e1, gI_k _ _ (by decide)]; exact fi.1
  rw [g1, ← nI_succ] at e2
  have f2 : cFit h2 P ((G + 1) ^ W) := ⟨by rw [e2, gI_k _ _ (by decide)]; exact g1, fun i hi hpi => by rw [e2, gI_o _ _ (by decide), e1, gI_o _ _ (by decide)]; exact fi.2 i hi hpi⟩
  have b2 : gI h2 71 2 = -9 := by rw [e2, gI_k _ _ (by decide), e1]; exact gI_at _ _ _ _
  have b3 : gI h2 71 3 = nI (cn P ((G + 1) ^ W) + 1) := by rw [e2]; exact gI_at _ _ _ _
  clear e1 e2 g1
  unfold w_X1_findQuestion_19
  intro X hX
  have key : ∀ (n : Nat) (g : hp) (bs : Int32) (bm : Nat), n ≤ 19 → bm ≤ 10001 → eqE cScr h g → cFit g P ((G + 1) ^ W) → gI g 71 2 = bs → gI g 71 3 = nI bm → nqF (mobF W G P ((G + 1) ^ W)) n bs bm = nqF (mobF W G P ((G + 1) ^ W)) 19 (-9) (cn P ((G + 1) ^ W) + 1) → X (sdF (19 - n), g) := by
    intro n
    induction n with
    | zero =>
      intro g bs bm _ _ xg fg s1 s2 e
      apply hX
      refine ⟨fun _ => hq g xg ?_ ?_, fun c => absurd (show (9 : Int32) < sdF 19 by decide) c⟩
      · rw [← e]; exact s1
      · rw [← e]; exact s2
    | succ n ih =>
      intro g bs bm hn hbm xg fg s1 s2 e
      have hs := sdF_in (b := 19 - (n + 1)) (by omega)
      have e9 : (9 : Int32).toInt = 9 := rfl
      have nx : sdF (19 - (n + 1)) + 1 = sdF (19 - n) := by rw [sdF_s (by omega)]; congr 1; omega
      apply hX
      unfold w_X1_findQuestion_b19
      rw [s2]
      refine ⟨fun c => ?_, fun _ => ⟨fun c => hq g xg ?_ ?_, fun c => ?_⟩⟩
      · have c : (9 : Int32) < sdF (19 - (n + 1)) := c
        rw [t_lt, hs, e9] at c
        omega
      · have c := (nI_leI (b := 1) (by omega) (by omega)).mp c
        rw [← e, nqF_1 hpos _ _ _ c]; exact s1
      · have c := (nI_leI (b := 1) (by omega) (by omega)).mp c
        rw [← e, nqF_1 hpos _ _ _ c]; exact s2
      · refine c_mostAlike (cWld_e xg a) ok fg hbm (fun r h5 x5 hr => ?_)
        have xc := eqE_trans xg (eqE_w nScr_c x5)
        have f5 := cFit_n x5 fg
        have s15 : gI h5 71 2 = bs := by rw [eqE_I x5 (by unfold nScr; omega)]; exact s1
        have s25 : gI h5 71 3 = nI bm := by rw [eqE_I x5 (by unfold nScr; omega)]; exact s2
        have hmm := moF_le (wcF W G (sdF (19 - (n + 1))).toInt64) P ((G + 1) ^ W)
        have hr : r = mobF W G P ((G + 1) ^ W) (19 - (n + 1)) ∨ (bm ≤ r ∧ r ≤ mobF W G P ((G + 1) ^ W) (19 - (n + 1))) := hr
        have hmm : mobF W G P ((G + 1) ^ W) (19 - (n + 1)) ≤ cn P ((G + 1) ^ W) := hmm
        have en : nqF (mobF W G P ((G + 1) ^ W)) (n + 1) bs bm = if mobF W G P ((G + 1) ^ W) (19 - (n + 1)) < bm then nqF (mobF W G P ((G + 1) ^ W)) n (sdF (19 - (n + 1))) (mobF W G P ((G + 1) ^ W) (19 - (n + 1))) else nqF (mobF W G P ((G + 1) ^ W)) n bs bm := rfl
        rw [en] at e
        rw [s25]
        refine ⟨fun c u eu => ?_, fun c h9 e9 h10 e10 u eu => ?_⟩
        · have c := (nI_leI (by omega) (by omega)).mp c
          have eu : u = sdF (19 - (n + 1)) + 1 := eu
          rw [nx] at eu
          subst eu
          rw [if_neg (by omega)] at e
          exact ih h5 bs bm (by omega) hbm xc f5 s15 s25 e
        · have c : ¬ bm ≤ r := fun q => c (nI_le q (by omega))
          have er : r = mobF W G P ((G + 1) ^ W) (19 - (n + 1)) := by omega
          have e9 : h9 = sI h5 71 2 (sdF (19 - (n + 1))) := e9
          have eu : u = sdF (19 - (n + 1)) + 1 := eu
          rw [nx] at eu
          subst eu
          rw [← er] at e
          rw [if_pos (by omega)] at e
          refine ih h10 _ r (by omega) (by omega) ?_ ⟨?_, fun i hi hpi => ?_⟩ ?_ ?_ e
          · rw [e10, e9]; exact eqE_sI (eqE_sI xc (by unfold cScr; omega)) (by unfold cScr; omega)
          · rw [e10, gI_k _ _ (by decide), e9, gI_k _ _ (by decide)]; exact f5.1
          · rw [e10, gI_o _ _ (by decide), e9, gI_o _ _ (by decide)]; exact f5.2 i hi hpi
          · rw [e10, gI_k _ _ (by decide), e9]; exact gI_at _ _ _ _
          · rw [e10]; exact gI_at _ _ _ _
  exact key 19 h2 (-9) _ (Nat.le_refl _) (by omega) x2 f2 b2 b3 rfl
def nextV (W G : Nat) (P : Nat → Bool) (M : Nat) (x : Int32) : Int32 := if cn P M = 0 then -2000 else if x = 0 then (nqF (mobF W G P M) 19 (-9) (cn P M + 1)).1 else nI (nqF (mobF W G P M) 19 (-9) (cn P M + 1)).2
abbrev isCN (D : Nat) (k w s x : Int32) : Prop := isC D k w s ∧ 0 ≤ x.toInt ∧ x.toInt ≤ 1
theorem c_next {h : hp} {W G D : Nat} {A : Nat → Int32} {B : Nat → Int64} {k w s x : Int32} {Q : Int32 → hp → Prop} (a : cWld h W G) (nz : cNz h W G) (ok : okW W G) (d : cTold 51 h D A B) (hD : D ≤ 20) (hq1 : ∀ h1, isCN D k w s x → eqE cScr h h1 → Q (nextV W G (fitX W G A B k w s) ((G + 1) ^ W) x) h1) (hq0 : ¬ isCN D k w s x → Q (-1000) h) : w_X11_next h k w s x Q := by
  obtain ⟨o1, o2, o3, o4⟩ := id ok
  have hM := pow_W (G := G) (j := W) o4 o2
  unfold w_X11_next w_X11_next_0
  refine c_within (fun c => ⟨fun q => absurd q (by decide), fun _ => ?_⟩) (fun c => ⟨fun _ => hq0 (fun q => c (by rw [tL_int]; exact q.2)), fun q => absurd rfl q⟩)
  rw [tL_int] at c
  have c : 0 ≤ x.toInt ∧ x.toInt ≤ 1 := c
  refine c_choose a nz ok d hD (fun h1 hc x1 f1 => ⟨fun _ => ?_, fun q => absurd q (by decide)⟩) (fun hc => ⟨fun q => absurd rfl q, fun _ => hq0 (fun q => hc q.1)⟩)
  have hq := fun h2 (e : eqE cScr h h2) => hq1 h2 ⟨hc, c⟩ e
  have a1 := cWld_e x1 a
  generalize fitX W G A B k w s = P at f1 hq
  have hcn := cn_le P ((G + 1) ^ W)
  unfold nextV at hq
  rw [f1.1]
  refine ⟨fun c3 => ?_, fun c3 => ?_⟩
  · have c3 : ¬ cn P ((G + 1) ^ W) = 0 := fun z => c3 (by rw [z]; rfl)
    refine c_findQuestion a1 ok f1 (by omega) (fun h8 x8 e1 e2 => ?_)
    have hq := hq h8 (eqE_trans x1 x8)
    rw [if_neg c3] at hq
    refine ⟨fun c4 => ?_, fun c4 => ?_⟩
    · rw [if_neg c4] at hq; rw [e2]; exact hq
    · rw [if_pos c4] at hq; rw [e1]; exact hq
  · have c3 := (nI_eq (b := 0) (by omega) (by omega)).mp c3
    have hq := hq h1 x1
    rw [if_pos c3] at hq
    exact hq
/-- what the reference's counting keeps -/
def mTal (f : Nat → Int64) (P : Nat → Bool) (j : Nat) (g : hp) (S : Int64 → Option Nat) : Prop :=
  mTab g S j ∧ (∀ p, p < 32768 → ¬ gI g 35 p = -1 → gI g 36 p = nI (ctF f P j (gL g 34 p))) ∧ (∀ p, p < 32768 → gI g 35 p = -1 → gI g 36 p = 0) ∧ (∀ k, S k = none → ctF f P j k = 0) ∧ (∀ p q, p < 32768 → q < 32768 → ¬ gI g 35 p = -1 → ¬ gI g 35 q = -1 → gL g 34 p = gL g 34 q → p = q)
theorem mFit_e {h h1 : hp} {P : Nat → Bool} {M : Nat} (e : eqE mtScr h h1) (f : mFit h P M) : mFit h1 P M := fun i hi => by rw [eqE_I e (by unfold mtScr; omega)]; exact f i hi
/-- all worlds counted by one number -/
theorem m_count1 {h : hp} {v W G : Nat} {P : Nat → Bool} {x4 x5 x6 x7 : Int32} {Q : Int32 → hp → Prop} {X49 : Int32 × Int32 × Int32 × hp → Prop} (t : mAt h v) (a : mWld v h W G) (ok : okW W G) (fi : mFit h P ((G + 1) ^ W))
    (hq : ∀ h1 y, eqE mtScr h h1 → y = x7 + 1 → ((x6 < 0 → X49 (x7, nI (moF (wcF W G x7.toInt64) P ((G + 1) ^ W)), y, h1)) ∧ (¬ x6 < 0 → (nI (moF (wcF W G x7.toInt64) P ((G + 1) ^ W)) < x6 → X49 (x7, nI (moF (wcF W G x7.toInt64) P ((G + 1) ^ W)), y, h1)) ∧ (¬ nI (moF (wcF W G x7.toInt64) P ((G + 1) ^ W)) < x6 → X49 (x5, x6, y, h1))))) : w_X12_clears h (fun h12 => w_X12_next_66 Q X49 x4 x5 x6 x7 0 0 h12) := by
  obtain ⟨o1, o2, o3, o4⟩ := id ok
  have hM := pow_W (G := G) (j := W) o4 o2
  refine m_clears (fun h1 t1 z1 x1 => ?_)
  have x1 : eqE mtScr h h1 := x1
  unfold w_X12_next_66
  intro X hX
  have wa : ∀ {R : Int32 → Prop} {g : hp}, eqE mtScr h g → R (nI ((G + 1) ^ W)) → w_X12_worldAll g R := fun eg hr => m_worldAll (mAt_e (eqE_w mtScr_m eg) t) (mWld_e (eqE_w mtScr_m eg) a) ok hr
  have ht1 : mTal (wcF W G x7.toInt64) P 0 h1 (fun _ => none) := by
    refine ⟨t1, fun p hp2 hn => ?_, fun p hp2 _ => z1 p hp2, fun k _ => rfl, fun p q hp2 hq2 hn _ _ => ?_⟩
    · refine absurd ?_ hn
      have := t1.1.2.2
      cases hb : decide (¬ gI h1 35 p = -1) with
      | true => exact absurd (t1.1.1 p hp2 hb) (by simp)
      | false => exact Classical.not_not.mp (of_decide_eq_false hb)
    · refine absurd ?_ hn
      cases hb : decide (¬ gI h1 35 p = -1) with
      | true => exact absurd (t1.1.1 p hp2 hb) (by simp)
      | false => exact Classical.not_not.mp (of_decide_eq_false hb)
  have f1 := mFit_e x1 fi
  have wc : ∀ {i : Nat} {R : Int64 → Prop} {g : hp}, i < 2147483648 → eqE mtScr h g → R (wcF W G x7.toInt64 i) → w_X12_worldComes g (nI i) x7.toInt64 R := fun hi eg hr => m_worldComes (mAt_e (eqE_w mtScr_m eg) t) (mWld_e (eqE_w mtScr_m eg) a) ok hi hr
  generalize wcF W G x7.toInt64 = f at ht1 hq wc
  generalize (G + 1) ^ W = M at hM f1 hq wa
  have key : ∀ (n j : Nat) (g : hp) (S : Int64 → Option Nat), n + j = M → eqE mtScr h g → mFit g P M → mTal f P j g S → X (nI (moF f P j), nI j, g) := by
    intro n
    induction n with
    | zero =>
      intro j g S hj xg fg tg
      have ej : j = M := by omega
      subst ej
      apply hX
      refine wa xg ⟨fun _ => ⟨fun c y ey => (hq g y xg ey).1 c, fun c => ⟨fun c2 y ey => ((hq g y xg ey).2 c).1 c2, fun c2 y ey => ((hq g y xg ey).2 c).2 c2⟩⟩, fun c => absurd (nI_le (Nat.le_refl _) (by omega)) c⟩
    | succ n ih =>
      intro j g S hj xg fg tg
      obtain ⟨ta, tb, tc, td, tu⟩ := tg
      apply hX
      unfold w_X12_next_b66
      rw [ix_n (by omega), fg j (by omega)]
      have hcj := cn_le P j
      have hmo := moF_le f P j
      refine wa xg ⟨fun c => absurd c (nI_ge (by omega) (by omega)), fun _ => ⟨in_n (by omega) (by omega), fun c => ?_, fun c u eu => ?_⟩⟩
      · have pj : P j = true := by
          by_cases z : P j = true
          · exact z
          · rw [if_neg z] at c; exact absurd rfl c
        have hct := ctF_le f P (f j) j
        have emo : moF f P (j + 1) = if moF f P j < ctF f P j (f j) + 1 then ctF f P j (f j) + 1 else moF f P j := by
          show (if P j = true then _ else _) = _
          rw [if_pos pj]
        have ecs : ∀ k, ctF f P (j + 1) k = ctF f P j k + (if f j = k then 1 else 0) := fun k => by
          show ctF f P j k + (if P j = true ∧ f j = k then 1 else 0) = _
          by_cases q : f j = k
          · rw [if_pos q, if_pos ⟨pj, q⟩]
          · rw [if_neg q, if_neg (fun z => q z.2)]
        have nxt := ih (j + 1)
        rw [emo] at nxt
        refine wc (by omega) xg ?_
        -- behind the place p
        have fin : ∀ (p : Nat) (g' : hp) (S' : Int64 → Option Nat), p < 32768 → eqE mtScr h g' → mFit g' P M → mTab g' S' (j + 1) → ¬ gI g' 35 p = -1 → gL g' 34 p = f j → gI g' 36 p = nI (ctF f P j (f j)) → (∀ q, q < 32768 → ¬ q = p → ¬ gI g' 35 q = -1 → gI g' 36 q = nI (ctF f P j (gL g' 34 q))) → (∀ q, q < 32768 → gI g' 35 q = -1 → gI g' 36 q = 0) → (∀ k, ¬ k = f j → S' k = none → ctF f P j k = 0) → ¬ S' (f j) = none → (∀ p q, p < 32768 → q < 32768 → ¬ gI g' 35 p = -1 → ¬ gI g' 35 q = -1 → gL g' 34 p = gL g' 34 q → p = q) → (vp_in (nI p) 32768 ∧ (vp_in (nI p) 32768 ∧ ∀ h26, h26 = sI g' 36 (ix (nI p)) ((gI g' 36 (ix (nI p))) + 1) → (vp_in (nI p) 32768 ∧ (((gI h26 36 (ix (nI p))) ≤ nI (moF f P j) → (∀ x9_28, x9_28 = nI j + 1 → (X (nI (moF f P j), x9_28, h26)))) ∧ (¬ ((gI h26 36 (ix (nI p))) ≤ nI (moF f P j)) → (vp_in (nI p) 32768 ∧ (∀ x8_29, x8_29 = gI h26 36 (ix (nI p)) → (∀ x9_30, x9_30 = nI j + 1 → (X (x8_29, x9_30, h26)))))))))) := by
          intro p g' S' hp2 xg' fg' tg' op kp ct oth opn sn sj un
          have inp : vp_in (nI p) 32768 := in_n hp2 (by omega)
          refine ⟨inp, inp, fun h26 e26 => ?_⟩
          rw [ix_n (by omega), ct, ← nI_succ] at e26
          have g26 : gI h26 36 p = nI (ctF f P j (f j) + 1) := by rw [e26]; exact gI_at _ _ _ _
          have q1 : ∀ q, gI h26 35 q = gI g' 35 q := fun q => by rw [e26, gI_o _ _ (by decide)]
          have q2 : gL h26 34 = gL g' 34 := by rw [e26]; rfl
          have t26 : mTal f P (j + 1) h26 S' := by
            unfold mTal
            simp only [q1, q2]
            refine ⟨?_, fun q hq2 oq => ?_, fun q hq2 oq => ?_, fun k hs => ?_, un⟩
            · unfold mTab
              rw [q2]
              simp only [q1]
              exact tg'
            · rw [ecs]
              by_cases c2 : q = p
              · subst c2
                rw [if_pos kp.symm, g26, kp]
              · rw [if_neg (fun z => c2 (un q p hq2 hp2 oq op (by rw [kp, z]))), Nat.add_zero, e26, gI_k _ _ c2]
                exact oth q hq2 c2 oq
            · rw [e26, gI_k _ _ (fun z => op (by rw [← z]; exact oq))]
              exact opn q hq2 oq
            · rw [ecs]
              by_cases c2 : k = f j
              · rw [c2] at hs; exact absurd hs sj
              · rw [if_neg (fun z => c2 z.symm)]
                exact sn k c2 hs
          have x26 : eqE mtScr h h26 := by rw [e26]; exact eqE_sI xg' (by unfold mtScr; omega)
          have f26 : mFit h26 P M := fun i hi => by rw [e26, gI_o _ _ (by decide)]; exact fg' i hi
          have nx := nxt h26 S' (by omega) x26 f26 t26
          rw [ix_n (by omega), g26]
          refine ⟨inp, fun c2 u eu => ?_, fun c2 => ⟨inp, fun y ey u eu => ?_⟩⟩
          · have c2 := (nI_leI (by omega) (by omega)).mp c2
            rw [← nI_succ] at eu
            subst eu
            rw [if_neg (by omega)] at nx
            exact nx
          · have c2 : ¬ ctF f P j (f j) + 1 ≤ moF f P j := fun z => c2 (nI_le z (by omega))
            rw [← nI_succ] at eu
            subst eu ey
            rw [if_pos (by omega)] at nx
            exact nx
        refine m_keyAt ta (by omega) (by omega) (fun p l hp2 hs op _ kp => ?_) (fun p hp2 hs op a1 => ?_)
        · refine fin p g S hp2 xg fg (mTab_up ta (by omega)) op kp ?_ (fun q hq2 _ oq => tb q hq2 oq) tc (fun k _ hs' => td k hs') (by rw [hs]; simp) tu
          rw [tb p hp2 op, kp]
        · have r1 : ∀ q, gI (sL (sI g 35 p (nI j)) 34 p (f j)) 35 q = if q = p then nI j else gI g 35 q := fun q => by
            rw [gI_sL, gI_sI]
            by_cases c2 : q = p
            · rw [if_pos ⟨rfl, c2⟩, if_pos c2]
            · rw [if_neg (fun z => c2 z.2), if_neg c2]
          have r2 : ∀ q, gL (sL (sI g 35 p (nI j)) 34 p (f j)) 34 q = if q = p then f j else gL g 34 q := fun q => by
            rw [gL_sL, gL_sI]
            by_cases c2 : q = p
            · rw [if_pos ⟨rfl, c2⟩, if_pos c2]
            · rw [if_neg (fun z => c2 z.2), if_neg c2]
          have r3 : ∀ q, gI (sL (sI g 35 p (nI j)) 34 p (f j)) 36 q = gI g 36 q := fun q => by rw [gI_sL, gI_o _ _ (by decide)]
          have nj : ¬ nI j = -1 := fun z => by
            have := congrArg Int32.toInt z
            rw [n_toInt (by omega), show (-1 : Int32).toInt = -1 from rfl] at this
            omega
          -- an occupied place has another key
          have ne : ∀ q, q < 32768 → ¬ gI g 35 q = -1 → ¬ gL g 34 q = f j := fun q hq2 oq z => by
            have := ta.1.1 q hq2 (decide_eq_true oq)
            rw [z, hs] at this
            exact absurd this (by simp)
          refine fin p _ _ hp2 (eqE_sL (eqE_sI xg (by unfold mtScr; omega)) (by unfold mtScr; omega)) (fun i hi => ?_) a1 ?_ ?_ ?_ (fun q hq2 c2 oq => ?_) (fun q hq2 oq => ?_) (fun k hk hs' => ?_) ?_ (fun q q' hq2 hq2' oq oq' ek => ?_)
          · rw [gI_sL, gI_o _ _ (by decide)]; exact fg i hi
          · rw [r1, if_pos rfl]; exact nj
          · rw [r2, if_pos rfl]
          · rw [r3, tc p hp2 op, td _ hs]; rfl
          · rw [r1, if_neg c2] at oq
            rw [r3, r2, if_neg c2]
            exact tb q hq2 oq
          · rw [r1] at oq
            by_cases c2 : q = p
            · rw [if_pos c2] at oq; exact absurd oq nj
            · rw [if_neg c2] at oq
              rw [r3]; exact tc q hq2 oq
          · unfold setS at hs'
            rw [if_neg hk] at hs'
            exact td k hs'
          · unfold setS
            rw [if_pos rfl]
            simp
          · rw [r1] at oq oq'
            rw [r2, r2] at ek
            by_cases c2 : q = p
            · by_cases c3 : q' = p
              · rw [c2, c3]
              · rw [if_pos c2, if_neg c3] at ek
                rw [if_neg c3] at oq'
                exact absurd ek.symm (ne q' hq2' oq')
            · rw [if_neg c2] at oq
              by_cases c3 : q' = p
              · rw [if_neg c2, if_pos c3] at ek
                exact absurd ek (ne q hq2 oq)
              · rw [if_neg c3] at oq'
                rw [if_neg c2, if_neg c3] at ek
                exact tu q q' hq2 hq2' oq oq' ek
      · have pj : ¬ P j = true := fun z => by rw [if_pos z] at c; exact absurd c (by decide)
        have emo : moF f P (j + 1) = moF f P j := by
          show (if P j = true then _ else _) = _
          rw [if_neg pj]
        have ecs : ∀ k, ctF f P (j + 1) k = ctF f P j k := fun k => by
          show ctF f P j k + (if P j = true ∧ f j = k then 1 else 0) = _
          rw [if_neg (fun z => pj z.1), Nat.add_zero]
        rw [← nI_succ] at eu
        subst eu
        have nxt := ih (j + 1) g S (by omega) xg fg
        rw [emo] at nxt
        refine nxt ?_
        unfold mTal
        simp only [ecs]
        exact ⟨mTab_up ta (by omega), tb, tc, td, tu⟩
  exact key M 0 h1 _ (by omega) x1 f1 ht1
theorem m_next {h : hp} {v W G D : Nat} {A : Nat → Int32} {B : Nat → Int64} {k w s x : Int32} {Q : Int32 → hp → Prop} (t : mAt h v) (a : mWld v h W G) (ok : okW W G) (d : mTold h D A B) (hD : D ≤ 20) (hq1 : ∀ h1, isCN D k w s x → eqE mScr h h1 → Q (nextV W G (fitX W G A B k w s) ((G + 1) ^ W) x) h1) (hq0 : ¬ isCN D k w s x → Q (-1000) h) : w_X12_next h k w s x Q := by
  obtain ⟨o1, o2, o3, o4⟩ := id ok
  have hM := pow_W (G := G) (j := W) o4 o2
  unfold w_X12_next w_X12_next_0
  refine m_isAsked d hD (fun hc => ⟨fun q => absurd q (by decide), fun _ => ?_⟩) (fun hc => ⟨fun _ => hq0 (fun q => hc q.1), fun q => absurd rfl q⟩)
  refine m_in (fun c => ⟨fun _ => ?_, fun q => absurd q (by decide)⟩) (fun c => ⟨fun q => absurd rfl q, fun _ => hq0 (fun q => c (by rw [tL_int]; exact q.2))⟩)
  rw [tL_int] at c
  have c : 0 ≤ x.toInt ∧ x.toInt ≤ 1 := c
  refine m_fillsX t a ok d hD hc (fun h1 x1 f1 => ?_)
  have hq := fun h2 (e : eqE mScr h h2) => hq1 h2 ⟨hc, c⟩ e
  have a1 := mWld_e x1 a
  have t1 := mAt_e x1 t
  generalize fitX W G A B k w s = P at f1 hq
  have hcn := cn_le P ((G + 1) ^ W)
  unfold nextV at hq
  refine ⟨fun c3 => ?_, fun c3 => ?_⟩
  · have c3 : ¬ cn P ((G + 1) ^ W) = 0 := fun z => c3 (by rw [z]; rfl)
    have e9 : (9 : Int32).toInt = 9 := rfl
    have e10 : (10 : Int32).toInt = 10 := rfl
    have hmb : ∀ b, mobF W G P ((G + 1) ^ W) b ≤ cn P ((G + 1) ^ W) := fun b => moF_le _ P _
    unfold w_X12_next_49
    intro X hX
    -- behind the first number
    have key : ∀ (n : Nat) (g : hp) (bs : Int32) (bm : Nat), n ≤ 18 → bm ≤ 10001 → eqE mtScr h1 g → nqF (mobF W G P ((G + 1) ^ W)) n bs bm = nqF (mobF W G P ((G + 1) ^ W)) 19 (-9) (cn P ((G + 1) ^ W) + 1) → X (bs, nI bm, sdF (19 - n), g) := by
      intro n
      induction n with
      | zero =>
        intro g bs bm _ _ xg e
        have hq := hq g (eqE_trans x1 (eqE_w mtScr_m xg))
        rw [if_neg c3, ← e] at hq
        apply hX
        refine ⟨fun _ => ⟨fun c4 => ?_, fun c4 => ?_⟩, fun c4 => absurd (show (10 : Int32) ≤ sdF 19 by decide) c4⟩
        · rw [if_neg c4] at hq; exact hq
        · rw [if_pos c4] at hq; exact hq
      | succ n ih =>
        intro g bs bm hn hbm xg e
        have hs := sdF_in (b := 19 - (n + 1)) (by omega)
        have nx : sdF (19 - (n + 1)) + 1 = sdF (19 - n) := by rw [sdF_s (by omega)]; congr 1; omega
        have en : nqF (mobF W G P ((G + 1) ^ W)) (n + 1) bs bm = if mobF W G P ((G + 1) ^ W) (19 - (n + 1)) < bm then nqF (mobF W G P ((G + 1) ^ W)) n (sdF (19 - (n + 1))) (mobF W G P ((G + 1) ^ W) (19 - (n + 1))) else nqF (mobF W G P ((G + 1) ^ W)) n bs bm := rfl
        rw [en] at e
        have hb := hmb (19 - (n + 1))
        apply hX
        refine ⟨fun c4 => ?_, fun _ => m_count1 (mAt_e (eqE_w mtScr_m xg) t1) (mWld_e (eqE_w mtScr_m xg) a1) ok (mFit_e xg f1) (fun h2 y x2 ey => ?_)⟩
        · have c4 : (10 : Int32) ≤ sdF (19 - (n + 1)) := c4
          rw [t_le, hs, e10] at c4
          omega
        · have ey : y = sdF (19 - (n + 1)) + 1 := ey
          rw [nx] at ey
          subst ey
          have xx := eqE_trans xg x2
          refine ⟨fun c5 => absurd c5 (nI_pos (by omega)), fun _ => ⟨fun c5 => ?_, fun c5 => ?_⟩⟩
          · have c5 : mobF W G P ((G + 1) ^ W) (19 - (n + 1)) < bm := (nI_ltI (by omega) (by omega)).mp c5
            rw [if_pos c5] at e
            exact ih h2 (sdF (19 - (n + 1))) (mobF W G P ((G + 1) ^ W) (19 - (n + 1))) (by omega) (by omega) xx e
          · have c5 : ¬ mobF W G P ((G + 1) ^ W) (19 - (n + 1)) < bm := fun z => c5 (nI_lt z (by omega))
            rw [if_neg c5] at e
            exact ih h2 bs bm (by omega) hbm xx e
    apply hX
    refine ⟨fun c4 => absurd c4 (show ¬ (10 : Int32) ≤ -9 by decide), fun _ => m_count1 t1 a1 ok f1 (fun h2 y x2 ey => ?_)⟩
    have ey : y = (-9) + 1 := ey
    have ey : y = sdF 1 := by rw [ey]; decide
    subst ey
    refine ⟨fun _ => ?_, fun c5 => absurd (show (-1 : Int32) < 0 by decide) c5⟩
    have h0 := hmb 0
    have e0 : sdF 0 = -9 := by decide
    refine key 18 h2 (-9) (mobF W G P ((G + 1) ^ W) 0) (Nat.le_refl _) (by omega) x2 ?_
    show _ = (if mobF W G P ((G + 1) ^ W) (19 - (18 + 1)) < cn P ((G + 1) ^ W) + 1 then nqF (mobF W G P ((G + 1) ^ W)) 18 (sdF 0) (mobF W G P ((G + 1) ^ W) 0) else _)
    rw [if_pos (show mobF W G P ((G + 1) ^ W) 0 < cn P ((G + 1) ^ W) + 1 by omega), e0]
  · have c3 := (nI_eq (b := 0) (by omega) (by omega)).mp c3
    have hq := hq h1 x1
    rw [if_pos c3] at hq
    exact hq
