/-! fits -/
theorem fstF_eq {p : Nat → Prop} [DecidablePred p] {M j : Nat} {d : Int32} (hj : j < M) (h1 : p j) (h2 : ∀ i, i < j → ¬ p i) : ∀ n, n ≤ M → M - n ≤ j → fstF p M d n = nI j
  | 0, _, h => by omega
  | n + 1, hn, h => by
    unfold fstF
    by_cases e : M - (n + 1) = j
    · rw [e, if_pos h1]
    · rw [if_neg (h2 _ (by omega))]
      exact fstF_eq hj h1 h2 n (by omega) (by omega)
theorem fstF_none {p : Nat → Prop} [DecidablePred p] {M : Nat} {d : Int32} (h : ∀ i, i < M → ¬ p i) : ∀ n, n ≤ M → fstF p M d n = d
  | 0, _ => rfl
  | n + 1, hn => by
    unfold fstF
    rw [if_neg (h _ (by omega))]
    exact fstF_none h n (by omega)
abbrev atP (P : Nat → Bool) (q j : Nat) : Prop := P j = true ∧ cn P j = q
def fitsA (P : Nat → Bool) (M : Nat) (x : Int32) : Int32 := if x = -1 then nI (cn P M) else fstF (atP P x.toInt.toNat) M (-1) M
theorem n1_of {x : Int32} (h : -1 ≤ x.toInt) (n : ¬ x = -1) : x = nI x.toInt.toNat ∧ x.toInt.toNat < 2147483648 ∧ 0 ≤ x.toInt := by
  have : ¬ x.toInt = -1 := fun q => n (t_eq.mpr q)
  have h0 : 0 ≤ x.toInt := by omega
  exact ⟨(n_of h0).1, (n_of h0).2, h0⟩
theorem c_fits {h : hp} {W G D : Nat} {A : Nat → Int32} {B : Nat → Int64} {k w s x : Int32} {Q : Int32 → hp → Prop} (a : cWld h W G) (nz : cNz h W G) (ok : okW W G) (d : cTold 51 h D A B) (hD : D ≤ 20) (hq1 : ∀ h1, isC D k w s ∧ -1 ≤ x.toInt → eqE cScr h h1 → Q (fitsA (fitX W G A B k w s) ((G + 1) ^ W) x) h1) (hq0 : ¬ (isC D k w s ∧ -1 ≤ x.toInt) → Q (-1) h) : w_X11_fits h k w s x Q := by
  obtain ⟨o1, o2, o3, o4⟩ := id ok
  have hM := pow_W (G := G) (j := W) o4 o2
  have e1 : (-1 : Int32).toInt = -1 := rfl
  unfold w_X11_fits w_X11_fits_0
  refine ⟨fun c => hq0 (fun q => ?_), fun c => ?_⟩
  · rw [t_lt, e1] at c; have := q.2; omega
  rw [t_lt, e1] at c
  refine c_choose a nz ok d hD (fun h1 hc x1 f1 => ⟨fun _ => ?_, fun q => absurd q (by decide)⟩) (fun hc => ⟨fun q => absurd rfl q, fun _ => hq0 (fun q => hc q.1)⟩)
  have hq := hq1 h1 ⟨hc, by omega⟩ x1
  unfold fitsA at hq
  generalize fitX W G A B k w s = P at f1 hq
  generalize (G + 1) ^ W = M at hM f1 hq
  have hcn := cn_le P M
  refine ⟨fun c2 => ?_, fun c2 => ?_⟩
  · rw [if_neg c2] at hq
    obtain ⟨ex, hx, h0⟩ := n1_of (by omega) c2
    generalize x.toInt.toNat = q at ex hx hq
    subst ex
    rw [f1.1, ix_n hx]
    refine ⟨fun c3 => ?_, fun c3 => ?_⟩
    · have c3 := (nI_leI (by omega) hx).mp c3
      rw [fstF_none (fun i hi z => by have := cn_lt (P := P) hi z.1; have := z.2; omega) _ (Nat.le_refl _)] at hq
      exact hq
    · have c3 : q < cn P M := by
        rcases Nat.lt_or_ge q (cn P M) with z | z
        · exact z
        · exact absurd (nI_le z hx) c3
      obtain ⟨i, hi, hpi, e⟩ := cn_surj M c3
      refine ⟨in_n (by omega) (by omega), ?_⟩
      rw [← e, f1.2 i hi hpi]
      rw [fstF_eq hi ⟨hpi, e⟩ (fun j hj z => by have := cn_inj z.1 hpi (by rw [z.2, e]); omega) _ (Nat.le_refl _) (by omega)] at hq
      exact hq
  · rw [if_pos c2] at hq
    rw [f1.1]
    exact hq
theorem m_fits {h : hp} {v W G D : Nat} {A : Nat → Int32} {B : Nat → Int64} {k w s x : Int32} {Q : Int32 → hp → Prop} (t : mAt h v) (a : mWld v h W G) (ok : okW W G) (d : mTold h D A B) (hD : D ≤ 20) (hq1 : ∀ h1, isC D k w s ∧ -1 ≤ x.toInt → eqE mScr h h1 → Q (fitsA (fitX W G A B k w s) ((G + 1) ^ W) x) h1) (hq0 : ¬ (isC D k w s ∧ -1 ≤ x.toInt) → Q (-1) h) : w_X12_fits h k w s x Q := by
  obtain ⟨o1, o2, o3, o4⟩ := id ok
  have hM := pow_W (G := G) (j := W) o4 o2
  have e1 : (-1 : Int32).toInt = -1 := rfl
  unfold w_X12_fits w_X12_fits_0
  refine m_isAsked d hD (fun hc => ⟨fun q => absurd q (by decide), fun _ => ⟨fun c => ?_, fun c => hq0 (fun q => c ?_)⟩⟩) (fun hc => ⟨fun _ => hq0 (fun q => hc q.1), fun q => absurd rfl q⟩)
  · rw [t_le, e1] at c
    refine m_fillsX t a ok d hD hc (fun h1 x1 f1 => ?_)
    have hq := hq1 h1 ⟨hc, c⟩ x1
    unfold fitsA at hq
    have wa : ∀ {R : Int32 → Prop}, R (nI ((G + 1) ^ W)) → w_X12_worldAll h1 R := fun hr => m_worldAll (mAt_e x1 t) (mWld_e x1 a) ok hr
    generalize fitX W G A B k w s = P at f1 hq
    generalize (G + 1) ^ W = M at hM f1 hq wa
    refine ⟨fun c2 => ?_, fun c2 => ?_⟩
    · rw [if_neg c2] at hq
      obtain ⟨ex, hx, h0⟩ := n1_of c c2
      generalize x.toInt.toNat = q at ex hx hq
      subst ex
      unfold w_X12_fits_42
      intro X hX
      have key : ∀ n j : Nat, n + j = M → Q (fstF (atP P q) M (-1) n) h1 → X (nI (cn P j), nI j) := by
        intro n
        induction n with
        | zero =>
          intro j hj hq
          have ej : j = M := by omega
          subst ej
          apply hX
          exact wa ⟨fun _ => hq, fun c => absurd (nI_le (Nat.le_refl _) (by omega)) c⟩
        | succ n ih =>
          intro j hj hq
          have hcn := cn_le P j
          unfold fstF at hq
          rw [show M - (n + 1) = j from by omega] at hq
          have nxt := ih (j + 1) (by omega)
          apply hX
          unfold w_X12_fits_b42
          rw [ix_n (by omega), f1 j (by omega)]
          refine wa ⟨fun c => absurd c (nI_ge (by omega) (by omega)), fun _ => ⟨in_n (by omega) (by omega), fun c3 => ⟨fun c4 y ey u eu => ?_, fun c4 => ?_⟩, fun c3 u eu => ?_⟩⟩
          · have pj : P j = true := by
              by_cases z : P j = true
              · exact z
              · rw [if_neg z] at c3; exact absurd rfl c3
            have c4 : ¬ cn P j = q := fun z => c4 (congrArg nI z)
            rw [if_neg (fun z => c4 z.2)] at hq
            rw [← nI_succ] at ey eu
            subst ey eu
            have e : cn P (j + 1) = cn P j + 1 := by
              show cn P j + _ = _
              rw [if_pos pj]
            rw [e] at nxt
            exact nxt hq
          · have pj : P j = true := by
              by_cases z : P j = true
              · exact z
              · rw [if_neg z] at c3; exact absurd rfl c3
            have c4 : cn P j = q := (nI_eq (by omega) (by omega)).mp c4
            rw [if_pos ⟨pj, c4⟩] at hq
            exact hq
          · have pj : ¬ P j = true := fun z => by rw [if_pos z] at c3; exact absurd c3 (by decide)
            rw [if_neg (fun z => pj z.1)] at hq
            rw [← nI_succ] at eu
            subst eu
            have e : cn P (j + 1) = cn P j := by
              show cn P j + _ = _
              rw [if_neg pj, Nat.add_zero]
            rw [e] at nxt
            exact nxt hq
      exact key M 0 (by omega) hq
    · rw [if_pos c2] at hq
      exact hq
  · rw [t_le, e1]; exact q.2
/-! least and greatest at a place -/
def lsF (P : Nat → Bool) (G k : Nat) : Nat → Nat
  | 0 => 9
  | i + 1 => if P i = true then (if figW G i k < lsF P G k i then figW G i k else lsF P G k i) else lsF P G k i
def gsF (P : Nat → Bool) (G k : Nat) : Nat → Nat
  | 0 => 0
  | i + 1 => if P i = true then (if gsF P G k i < figW G i k then figW G i k else gsF P G k i) else gsF P G k i
theorem figW_9 {G i k : Nat} (hG : G ≤ 9) : figW G i k ≤ 9 := by
  have : figW G i k < G + 1 := Nat.mod_lt _ (by omega)
  omega
theorem lsF_9 (P : Nat → Bool) {G : Nat} (k : Nat) (hG : G ≤ 9) : ∀ i, lsF P G k i ≤ 9
  | 0 => Nat.le_refl _
  | i + 1 => by
    have h1 := lsF_9 P k hG i
    have h2 := figW_9 (i := i) (k := k) hG
    unfold lsF
    split
    · split <;> omega
    · exact h1
theorem gsF_9 (P : Nat → Bool) {G : Nat} (k : Nat) (hG : G ≤ 9) : ∀ i, gsF P G k i ≤ 9
  | 0 => Nat.zero_le _
  | i + 1 => by
    have h1 := gsF_9 P k hG i
    have h2 := figW_9 (i := i) (k := k) hG
    unfold gsF
    split
    · split <;> omega
    · exact h1
theorem c_leastAt {h : hp} {W G k : Nat} {P : Nat → Bool} {Q : Int32 → Prop} (a : cWld h W G) (ok : okW W G) (fi : cFit h P ((G + 1) ^ W)) (hk : k < 2147483648) (hq : Q (nI (lsF P G k ((G + 1) ^ W)))) : w_X1_leastAt h (nI k) Q := by
  obtain ⟨o1, o2, o3, o4⟩ := id ok
  have hM := pow_W (G := G) (j := W) o4 o2
  unfold w_X1_leastAt w_X1_leastAt_0 w_X1_leastAt_5
  intro X hX
  generalize (G + 1) ^ W = M at hM fi hq
  have hc := cn_le P M
  have key : ∀ n j : Nat, n + j = M → X (nI (lsF P G k j), nI (cn P j)) := by
    intro n
    induction n with
    | zero =>
      intro j hj
      have ej : j = M := by omega
      subst ej
      apply hX
      unfold w_X1_leastAt_b5
      rw [fi.1]
      exact ⟨fun _ => hq, fun c => absurd (nI_le (Nat.le_refl _) (by omega)) c⟩
    | succ n ih =>
      intro j hj
      have nxt := ih (j + 1) (by omega)
      by_cases pj : P j = true
      · have e : cn P (j + 1) = cn P j + 1 := by
          show cn P j + _ = _
          rw [if_pos pj]
        have hl := cn_lt (P := P) (show j < M by omega) pj
        have h1 := lsF_9 P k o4 j
        have h2 := figW_9 (i := j) (k := k) o4
        rw [e] at nxt
        unfold lsF at nxt
        rw [if_pos pj] at nxt
        apply hX
        unfold w_X1_leastAt_b5
        rw [fi.1, ix_n (by omega), fi.2 j (by omega) pj]
        refine ⟨fun c => absurd c (nI_ge (by omega) (by omega)), fun _ => ⟨in_n (by omega) (by omega), c_numW a ok (by omega) hk (fun y ey u eu => ?_)⟩⟩
        have ey : y = if nI (figW G j k) < nI (lsF P G k j) then nI (figW G j k) else nI (lsF P G k j) := ey
        have ey : y = nI (if figW G j k < lsF P G k j then figW G j k else lsF P G k j) := by
          rw [ey]
          by_cases c : figW G j k < lsF P G k j
          · rw [if_pos c, if_pos (nI_lt c (by omega))]
          · rw [if_neg c, if_neg (nI_nlt (by omega) (by omega))]
        rw [← nI_succ] at eu
        subst ey eu
        exact nxt
      · have e : cn P (j + 1) = cn P j := by
          show cn P j + _ = _
          rw [if_neg pj, Nat.add_zero]
        rw [e] at nxt
        unfold lsF at nxt
        rw [if_neg pj] at nxt
        exact nxt
  exact key M 0 (by omega)
theorem c_greatestAt {h : hp} {W G k : Nat} {P : Nat → Bool} {Q : Int32 → Prop} (a : cWld h W G) (ok : okW W G) (fi : cFit h P ((G + 1) ^ W)) (hk : k < 2147483648) (hq : Q (nI (gsF P G k ((G + 1) ^ W)))) : w_X1_greatestAt h (nI k) Q := by
  obtain ⟨o1, o2, o3, o4⟩ := id ok
  have hM := pow_W (G := G) (j := W) o4 o2
  unfold w_X1_greatestAt w_X1_greatestAt_0 w_X1_greatestAt_4
  intro X hX
  generalize (G + 1) ^ W = M at hM fi hq
  have hc := cn_le P M
  have key : ∀ n j : Nat, n + j = M → X (nI (gsF P G k j), nI (cn P j)) := by
    intro n
    induction n with
    | zero =>
      intro j hj
      have ej : j = M := by omega
      subst ej
      apply hX
      unfold w_X1_greatestAt_b4
      rw [fi.1]
      exact ⟨fun _ => hq, fun c => absurd (nI_le (Nat.le_refl _) (by omega)) c⟩
    | succ n ih =>
      intro j hj
      have nxt := ih (j + 1) (by omega)
      by_cases pj : P j = true
      · have e : cn P (j + 1) = cn P j + 1 := by
          show cn P j + _ = _
          rw [if_pos pj]
        have hl := cn_lt (P := P) (show j < M by omega) pj
        have h1 := gsF_9 P k o4 j
        have h2 := figW_9 (i := j) (k := k) o4
        rw [e] at nxt
        unfold gsF at nxt
        rw [if_pos pj] at nxt
        apply hX
        unfold w_X1_greatestAt_b4
        rw [fi.1, ix_n (by omega), fi.2 j (by omega) pj]
        refine ⟨fun c => absurd c (nI_ge (by omega) (by omega)), fun _ => ⟨in_n (by omega) (by omega), c_numW a ok (by omega) hk (fun y ey u eu => ?_)⟩⟩
        have ey : y = if nI (gsF P G k j) < nI (figW G j k) then nI (figW G j k) else nI (gsF P G k j) := ey
        have ey : y = nI (if gsF P G k j < figW G j k then figW G j k else gsF P G k j) := by
          rw [ey]
          by_cases c : gsF P G k j < figW G j k
          · rw [if_pos c, if_pos (nI_lt c (by omega))]
          · rw [if_neg c, if_neg (nI_nlt (by omega) (by omega))]
        rw [← nI_succ] at eu
        subst ey eu
        exact nxt
      · have e : cn P (j + 1) = cn P j := by
          show cn P j + _ = _
          rw [if_neg pj, Nat.add_zero]
        rw [e] at nxt
        unfold gsF at nxt
        rw [if_neg pj] at nxt
        exact nxt
  exact key M 0 (by omega)
def ls10 (P : Nat → Bool) (G k i : Nat) : Nat := if cn P i = 0 then 10 else lsF P G k i
theorem ls10_s {P : Nat → Bool} {G k i : Nat} (hG : G ≤ 9) : ls10 P G k (i + 1) = if P i = true then (if ls10 P G k i ≤ figW G i k then ls10 P G k i else figW G i k) else ls10 P G k i := by
  have h1 := lsF_9 P k hG i
  have h2 := figW_9 (i := i) (k := k) hG
  have el : lsF P G k (i + 1) = if P i = true then (if figW G i k < lsF P G k i then figW G i k else lsF P G k i) else lsF P G k i := rfl
  have ec : cn P (i + 1) = cn P i + (if P i = true then 1 else 0) := rfl
  -- none ahead: the least is still 9
  have e9 : ∀ j, cn P j = 0 → lsF P G k j = 9 := by
    intro j
    induction j with
    | zero => intro _; rfl
    | succ j ih =>
      intro hz
      have hz : cn P j + (if P j = true then 1 else 0) = 0 := hz
      by_cases q : P j = true
      · rw [if_pos q] at hz; omega
      · show (if P j = true then _ else _) = 9
        rw [if_neg q]
        exact ih (by omega)
  unfold ls10
  rw [el, ec]
  by_cases p : P i = true
  · rw [if_pos p, if_pos p, if_pos p, if_neg (show ¬ cn P i + 1 = 0 by omega)]
    by_cases c : cn P i = 0
    · rw [if_pos c, e9 i c]
      split <;> split <;> omega
    · rw [if_neg c]
      split <;> split <;> omega
  · rw [if_neg p, if_neg p, if_neg p, Nat.add_zero]
theorem m_spanOf {h : hp} {v W G k : Nat} {P : Nat → Bool} {Q : Int32 → Prop} (t : mAt h v) (a : mWld v h W G) (ok : okW W G) (fi : mFit h P ((G + 1) ^ W)) (hk : k < 2147483648) (hq : Q (nI (10 * ls10 P G k ((G + 1) ^ W) + gsF P G k ((G + 1) ^ W)))) : w_X12_spanOf h (nI k) Q := by
  obtain ⟨o1, o2, o3, o4⟩ := id ok
  have hM := pow_W (G := G) (j := W) o4 o2
  have l10 : ∀ i, ls10 P G k i ≤ 10 := fun i => by
    have := lsF_9 P k o4 i
    unfold ls10
    split <;> omega
  unfold w_X12_spanOf w_X12_spanOf_0 w_X12_spanOf_8
  intro X hX
  have wa : ∀ {R : Int32 → Prop}, R (nI ((G + 1) ^ W)) → w_X12_worldAll h R := fun hr => m_worldAll t a ok hr
  generalize (G + 1) ^ W = M at hM fi hq wa
  have key : ∀ n j : Nat, n + j = M → X (nI (ls10 P G k j), nI (gsF P G k j), nI j) := by
    intro n
    induction n with
    | zero =>
      intro j hj
      have ej : j = M := by omega
      subst ej
      have h1 := l10 j
      have h2 := gsF_9 P k o4 j
      apply hX
      refine wa ⟨fun _ => ?_, fun c => absurd (nI_le (Nat.le_refl _) (by omega)) c⟩
      show Q (10 * nI (ls10 P G k j) + nI (gsF P G k j))
      rw [show (10 : Int32) = nI 10 from rfl, nI_mul (by omega) (by omega) (by omega), nI_add]
      exact hq
    | succ n ih =>
      intro j hj
      have nxt := ih (j + 1) (by omega)
      have h1 := l10 j
      have h2 := gsF_9 P k o4 j
      have h3 := figW_9 (i := j) (k := k) o4
      rw [ls10_s o4] at nxt
      unfold gsF at nxt
      apply hX
      unfold w_X12_spanOf_b8
      rw [ix_n (by omega), fi j (by omega)]
      refine wa ⟨fun c => absurd c (nI_ge (by omega) (by omega)), fun _ => ⟨in_n (by omega) (by omega), fun c => ?_, fun c u eu => ?_⟩⟩
      · have pj : P j = true := by
          by_cases z : P j = true
          · exact z
          · rw [if_neg z] at c; exact absurd rfl c
        rw [if_pos pj, if_pos pj] at nxt
        refine m_figureOf t a ok (by omega) hk ?_
        have sec : ∀ l : Nat, X (nI l, nI (if gsF P G k j < figW G j k then figW G j k else gsF P G k j), nI (j + 1)) → w_X12_spanOf_48 Q X (nI k) (nI l) (nI (gsF P G k j)) (nI j) (nI (figW G j k)) h := by
          intro l nx
          refine ⟨fun c u eu => ?_, fun c u eu => ?_⟩
          · have c := (nI_leI (by omega) (by omega)).mp c
            rw [← nI_succ] at eu
            subst eu
            rw [if_neg (by omega)] at nx
            exact nx
          · have c : ¬ figW G j k ≤ gsF P G k j := fun q => c (nI_le q (by omega))
            rw [← nI_succ] at eu
            subst eu
            rw [if_pos (by omega)] at nx
            exact nx
        refine ⟨fun c => sec _ ?_, fun c => sec _ ?_⟩
        · have c := (nI_leI (by omega) (by omega)).mp c
          rw [if_pos c] at nxt
          exact nxt
        · have c : ¬ ls10 P G k j ≤ figW G j k := fun q => c (nI_le q (by omega))
          rw [if_neg c] at nxt
          exact nxt
      · have pj : ¬ P j = true := fun z => by rw [if_pos z] at c; exact absurd c (by decide)
        rw [if_neg pj, if_neg pj] at nxt
        rw [← nI_succ] at eu
        subst eu
        exact nxt
  exact key M 0 (by omega)
/-! sure -/
def suF (P : Nat → Bool) (G M W : Nat) : Nat → Int32 → Int32
  | 0, acc => acc
  | n + 1, acc => suF P G M W n (if lsF P G (W - (n + 1)) M = gsF P G (W - (n + 1)) M then acc ||| jshl 1 (nI (W - (n + 1))) else acc)
def sureV (P : Nat → Bool) (G M W : Nat) : Int32 := if cn P M = 0 then 0 else suF P G M W W 0
theorem c_sure {h : hp} {W G D : Nat} {A : Nat → Int32} {B : Nat → Int64} {k w s : Int32} {Q : Int32 → hp → Prop} (a : cWld h W G) (nz : cNz h W G) (ok : okW W G) (d : cTold 51 h D A B) (hD : D ≤ 20) (hq1 : ∀ h1, isC D k w s → eqE cScr h h1 → Q (sureV (fitX W G A B k w s) G ((G + 1) ^ W) W) h1) (hq0 : ¬ isC D k w s → Q (-1) h) : w_X11_sure h k w s Q := by
  obtain ⟨o1, o2, o3, o4⟩ := id ok
  have hM := pow_W (G := G) (j := W) o4 o2
  unfold w_X11_sure w_X11_sure_0
  refine c_choose a nz ok d hD (fun h1 hc x1 f1 => ⟨fun q => absurd q (by decide), fun _ => ?_⟩) (fun hc => ⟨fun _ => hq0 hc, fun q => absurd rfl q⟩)
  have hq := hq1 h1 hc x1
  have a1 := cWld_e x1 a
  generalize fitX W G A B k w s = P at f1 hq
  have hcn := cn_le P ((G + 1) ^ W)
  unfold w_X1_surePlaces w_X1_surePlaces_0 w_X1_surePlaces_4
  intro X hX
  unfold sureV at hq
  by_cases c0 : cn P ((G + 1) ^ W) = 0
  · rw [if_pos c0] at hq
    apply hX
    refine ⟨fun _ => hq, fun _ => ⟨fun _ => hq, fun c => absurd ?_ c⟩⟩
    show gI h1 71 1 ≤ 0
    rw [f1.1, c0]
    decide
  · rw [if_neg c0] at hq
    have key : ∀ (n : Nat) (acc : Int32), n ≤ W → Q (suF P G ((G + 1) ^ W) W n acc) h1 → X (acc, nI (W - n)) := by
      intro n
      induction n with
      | zero =>
        intro acc _ hq
        apply hX
        refine ⟨fun _ => hq, fun c => absurd ?_ c⟩
        show gI h1 64 0 ≤ nI W
        rw [a1.1]
        exact nI_le (Nat.le_refl _) (by omega)
      | succ n ih =>
        intro acc hn hq
        unfold suF at hq
        apply hX
        unfold w_X1_surePlaces_b4
        rw [a1.1, f1.1]
        refine ⟨fun c => absurd c (nI_ge (by omega) (by omega)), fun _ => ⟨fun c => absurd ((nI_leI (b := 0) (by omega) (by omega)).mp c) (by omega), fun _ => c_leastAt a1 ok f1 (by omega) (c_greatestAt a1 ok f1 (by omega) ?_)⟩⟩
        have h9 := lsF_9 P (W - (n + 1)) o4 ((G + 1) ^ W)
        have h8 := gsF_9 P (W - (n + 1)) o4 ((G + 1) ^ W)
        have e1 : nI (W - (n + 1)) + 1 = nI (W - n) := by rw [← nI_succ]; congr 1; omega
        refine ⟨fun c u eu => ?_, fun c y ey u eu => ?_⟩
        · have eu : u = nI (W - (n + 1)) + 1 := eu
          rw [e1] at eu
          subst eu
          rw [if_neg (fun q => c (congrArg nI q))] at hq
          exact ih acc (by omega) hq
        · have eu : u = nI (W - (n + 1)) + 1 := eu
          have ey : y = acc ||| jshl 1 (nI (W - (n + 1))) := ey
          rw [e1] at eu
          subst eu ey
          rw [if_pos ((nI_eq (by omega) (by omega)).mp c)] at hq
          exact ih _ (by omega) hq
    have := key W 0 (Nat.le_refl _) hq
    rw [Nat.sub_self] at this
    exact this
theorem m_sure {h : hp} {v W G D : Nat} {A : Nat → Int32} {B : Nat → Int64} {k w s : Int32} {Q : Int32 → hp → Prop} (t : mAt h v) (a : mWld v h W G) (ok : okW W G) (d : mTold h D A B) (hD : D ≤ 20) (hq1 : ∀ h1, isC D k w s → eqE mScr h h1 → Q (sureV (fitX W G A B k w s) G ((G + 1) ^ W) W) h1) (hq0 : ¬ isC D k w s → Q (-1) h) : w_X12_sure h k w s Q := by
  obtain ⟨o1, o2, o3, o4⟩ := id ok
  have hM := pow_W (G := G) (j := W) o4 o2
  unfold w_X12_sure w_X12_sure_0
  refine m_isAsked d hD (fun hc => ⟨fun _ => m_fillsX t a ok d hD hc (fun h1 x1 f1 => ?_), fun q => absurd q (by decide)⟩) (fun hc => ⟨fun q => absurd rfl q, fun _ => hq0 hc⟩)
  have hq := hq1 h1 hc x1
  have a1 := mWld_e x1 a
  have t1 := mAt_e x1 t
  have hs := t1.2
  have eW : gI h1 19 (ix (gI h1 0 18)) = nI W := by rw [t1.1, ix_n (by omega), a1.1]
  have hin : vp_in (gI h1 0 18) 2 := by rw [t1.1]; exact in_n hs (by omega)
  generalize fitX W G A B k w s = P at f1 hq
  have hcn := cn_le P ((G + 1) ^ W)
  unfold sureV at hq
  refine ⟨fun c => ?_, fun c => ?_⟩
  · have c := (nI_leI (b := 0) (by omega) (by omega)).mp c
    rw [if_pos (by omega)] at hq
    exact hq
  · have c : ¬ cn P ((G + 1) ^ W) = 0 := fun q => c (by rw [q]; decide)
    rw [if_neg c] at hq
    unfold w_X12_sure_28
    intro X hX
    have key : ∀ (n : Nat) (acc : Int32), n ≤ W → Q (suF P G ((G + 1) ^ W) W n acc) h1 → X (acc, nI (W - n)) := by
      intro n
      induction n with
      | zero =>
        intro acc _ hq
        apply hX
        unfold w_X12_sure_b28
        rw [eW]
        exact ⟨hin, fun _ => hq, fun c => absurd (nI_le (Nat.le_refl _) (by omega)) c⟩
      | succ n ih =>
        intro acc hn hq
        unfold suF at hq
        have h9 := lsF_9 P (W - (n + 1)) o4 ((G + 1) ^ W)
        have h8 := gsF_9 P (W - (n + 1)) o4 ((G + 1) ^ W)
        have e1 : nI (W - (n + 1)) + 1 = nI (W - n) := by rw [← nI_succ]; congr 1; omega
        apply hX
        unfold w_X12_sure_b28
        rw [eW]
        refine ⟨hin, fun c => absurd c (nI_ge (by omega) (by omega)), fun _ => m_spanOf t1 a1 ok f1 (by omega) ?_⟩
        unfold ls10
        rw [if_neg c, show (11 : Int32) = nI 11 from rfl, nI_rem (by omega) (by omega) (by omega)]
        have iff : nI ((10 * lsF P G (W - (n + 1)) ((G + 1) ^ W) + gsF P G (W - (n + 1)) ((G + 1) ^ W)) % 11) = 0 ↔ lsF P G (W - (n + 1)) ((G + 1) ^ W) = gsF P G (W - (n + 1)) ((G + 1) ^ W) := by
          refine Iff.trans (nI_eq (b := 0) (by omega) (by omega)) ?_
          omega
        refine ⟨fun c u eu => ?_, fun c y ey u eu => ?_⟩
        · have eu : u = nI (W - (n + 1)) + 1 := eu
          rw [e1] at eu
          subst eu
          rw [if_neg (fun q => c (iff.mpr q))] at hq
          exact ih acc (by omega) hq
        · have eu : u = nI (W - (n + 1)) + 1 := eu
          have ey : y = acc ||| jshl 1 (nI (W - (n + 1))) := ey
          rw [e1] at eu
          subst eu ey
          rw [if_pos (iff.mp c)] at hq
          exact ih _ (by omega) hq
    have := key W 0 (Nat.le_refl _) hq
    rw [Nat.sub_self] at this
    exact this
/-! span -/
def spanV (P : Nat → Bool) (G M : Nat) (x : Int32) : Int32 := if cn P M = 0 then -2 else nI (10 * lsF P G x.toInt.toNat M + gsF P G x.toInt.toNat M)
abbrev isCP (D W : Nat) (k w s x : Int32) : Prop := isC D k w s ∧ 0 ≤ x.toInt ∧ x.toInt < (W : Int)
theorem c_span {h : hp} {W G D : Nat} {A : Nat → Int32} {B : Nat → Int64} {k w s x : Int32} {Q : Int32 → hp → Prop} (a : cWld h W G) (nz : cNz h W G) (ok : okW W G) (d : cTold 51 h D A B) (hD : D ≤ 20) (hq1 : ∀ h1, isCP D W k w s x → eqE cScr h h1 → Q (spanV (fitX W G A B k w s) G ((G + 1) ^ W) x) h1) (hq0 : ¬ isCP D W k w s x → Q (-1) h) : w_X11_span h k w s x Q := by
  obtain ⟨o1, o2, o3, o4⟩ := id ok
  have hM := pow_W (G := G) (j := W) o4 o2
  have z0 : (0 : Int32).toInt = 0 := rfl
  have eW := n_toInt (n := W) (by omega)
  unfold w_X11_span w_X11_span_0
  rw [a.1]
  refine ⟨fun c => hq0 (fun q => ?_), fun c => ⟨fun c2 => hq0 (fun q => ?_), fun c2 => ?_⟩⟩
  · rw [t_lt, z0] at c; have := q.2.1; omega
  · rw [t_le, eW] at c2; have := q.2.2; omega
  · rw [t_lt, z0] at c
    rw [t_le, eW] at c2
    refine c_choose a nz ok d hD (fun h1 hc x1 f1 => ⟨fun _ => ?_, fun q => absurd q (by decide)⟩) (fun hc => ⟨fun q => absurd rfl q, fun _ => hq0 (fun q => hc q.1)⟩)
    have hq := hq1 h1 ⟨hc, by omega, by omega⟩ x1
    have a1 := cWld_e x1 a
    generalize fitX W G A B k w s = P at f1 hq
    have hcn := cn_le P ((G + 1) ^ W)
    unfold spanV at hq
    obtain ⟨ex, hx⟩ := n_of (x := x) (by omega)
    generalize x.toInt.toNat = q at ex hx hq
    subst ex
    rw [f1.1]
    refine ⟨fun c3 => ?_, fun c3 => ?_⟩
    · rw [if_neg (fun z => c3 (by rw [z]; rfl))] at hq
      refine c_leastAt a1 ok f1 hx (c_greatestAt a1 ok f1 hx ?_)
      have h9 := lsF_9 P q o4 ((G + 1) ^ W)
      have h8 := gsF_9 P q o4 ((G + 1) ^ W)
      rw [show (10 : Int32) = nI 10 from rfl, nI_mul (by omega) (by omega) (by omega), nI_add]
      exact hq
    · have c3 := (nI_eq (b := 0) (by omega) (by omega)).mp c3
      rw [if_pos c3] at hq
      exact hq
theorem m_span {h : hp} {v W G D : Nat} {A : Nat → Int32} {B : Nat → Int64} {k w s x : Int32} {Q : Int32 → hp → Prop} (t : mAt h v) (a : mWld v h W G) (ok : okW W G) (d : mTold h D A B) (hD : D ≤ 20) (hq1 : ∀ h1, isCP D W k w s x → eqE mScr h h1 → Q (spanV (fitX W G A B k w s) G ((G + 1) ^ W) x) h1) (hq0 : ¬ isCP D W k w s x → Q (-1) h) : w_X12_span h k w s x Q := by
  obtain ⟨o1, o2, o3, o4⟩ := id ok
  have hM := pow_W (G := G) (j := W) o4 o2
  have z0 : (0 : Int64).toInt = 0 := rfl
  have h1 : (1 : Int32).toInt = 1 := rfl
  have hs := t.2
  have eW := n_toInt (n := W) (by omega)
  have eg : gI h 19 (ix (gI h 0 18)) = nI W := by rw [t.1, ix_n (by omega), a.1]
  have e2 : (nI W - 1).toInt = (W : Int) - 1 := by rw [t_sub (by rw [eW, h1]; omega) (by rw [eW, h1]; omega), eW, h1]
  unfold w_X12_span w_X12_span_0
  rw [eg]
  refine m_isAsked d hD (fun hc => ⟨fun q => absurd q (by decide), fun _ => ⟨by rw [t.1]; exact in_n hs (by omega), ?_⟩⟩) (fun hc => ⟨fun _ => hq0 (fun q => hc q.1), fun q => absurd rfl q⟩)
  refine m_in (fun c => ⟨fun _ => ?_, fun q => absurd q (by decide)⟩) (fun c => ⟨fun q => absurd rfl q, fun _ => hq0 (fun q => c ?_)⟩)
  · rw [tL_int, tL_int, e2, z0] at c
    refine m_fillsX t a ok d hD hc (fun h1 x1 f1 => ?_)
    have hq := hq1 h1 ⟨hc, by omega, by omega⟩ x1
    generalize fitX W G A B k w s = P at f1 hq
    have hcn := cn_le P ((G + 1) ^ W)
    unfold spanV at hq
    obtain ⟨ex, hx⟩ := n_of (x := x) (by omega)
    generalize x.toInt.toNat = q at ex hx hq
    subst ex
    refine ⟨fun c3 => ?_, fun c3 => ?_⟩
    · have c3 : ¬ cn P ((G + 1) ^ W) = 0 := fun z => c3 (by rw [z]; rfl)
      rw [if_neg c3] at hq
      refine m_spanOf (mAt_e x1 t) (mWld_e x1 a) ok f1 hx ?_
      unfold ls10
      rw [if_neg c3]
      exact hq
    · have c3 := (nI_eq (b := 0) (by omega) (by omega)).mp c3
      rw [if_pos c3] at hq
      exact hq
  · rw [tL_int, tL_int, e2, z0]
    have := q.2
    omega
