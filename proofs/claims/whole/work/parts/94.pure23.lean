/-! enough -/
theorem bsP_none : ∀ k, bsP (fun _ => False) k = 0
  | 0 => rfl
  | k + 1 => by
    show bsP (fun _ => False) k + ifC False (2 ^ k) 0 = 0
    rw [bsP_none k, ifC_neg id]
theorem and_nI {a b : Nat} (ha : a < 2147483648) (hb : b < 2147483648) : nI a &&& nI b = nI (a &&& b) := by
  apply Int32.toBitVec_inj.mp
  apply BitVec.eq_of_toNat_eq
  have := Nat.and_le_left (n := a) (m := b)
  rw [Int32.toBitVec_and, BitVec.toNat_and, nI_bv ha, nI_bv hb, nI_bv (by omega)]
theorem bits_2 {p : Nat → Prop} {k i j : Nat} (hk : k < 31) (hi : i < k) (hj : j < k) : ((jshr (nI (bsP p k)) (nI i)) &&& (jshr (nI (bsP p k)) (nI j))) &&& 1 = 0 ↔ ¬ (p i ∧ p j) := by
  have hl := bsP_lt p k
  have h2 : 2 ^ k ≤ 2 ^ 30 := Nat.pow_le_pow_right (by decide) (by omega)
  have d1 : bsP p k / 2 ^ i ≤ bsP p k := Nat.div_le_self _ _
  have d2 : bsP p k / 2 ^ j ≤ bsP p k := Nat.div_le_self _ _
  have d3 := Nat.and_le_left (n := bsP p k / 2 ^ i) (m := bsP p k / 2 ^ j)
  rw [jshr_n (by omega) (by omega), jshr_n (by omega) (by omega), and_nI (by omega) (by omega), and1_n (by omega)]
  refine Iff.trans (nI_eq (b := 0) (by omega) (by omega)) ?_
  have bi := bsP_bit p i k
  have bj := bsP_bit p j k
  rw [Nat.testBit_eq_decide_div_mod_eq, decide_eq_true_iff] at bi bj
  have e : (bsP p k / 2 ^ i &&& bsP p k / 2 ^ j) % 2 = 1 ↔ bsP p k / 2 ^ i % 2 = 1 ∧ bsP p k / 2 ^ j % 2 = 1 := by
    have t := Nat.testBit_and (bsP p k / 2 ^ i) (bsP p k / 2 ^ j) 0
    rw [Nat.testBit_zero, Nat.testBit_zero, Nat.testBit_zero] at t
    have t2 := Bool.eq_iff_iff.mp t
    rw [Bool.and_eq_true, decide_eq_true_iff, decide_eq_true_iff, decide_eq_true_iff] at t2
    exact t2
  rw [bi, bj] at e
  refine ⟨fun h q => ?_, fun h => ?_⟩
  · have := e.mpr ⟨⟨hi, q.1⟩, hj, q.2⟩; omega
  · have : ¬ (bsP p k / 2 ^ i &&& bsP p k / 2 ^ j) % 2 = 1 := fun z => h ⟨(e.mp z).1.2, (e.mp z).2.2⟩
    omega
def eP (P : Nat → Bool) (M q : Nat) : Nat := (fstF (atP P q) M (-1) M).toInt.toNat
theorem eP_cn {P : Nat → Bool} {M i : Nat} (hM : M ≤ 10000) (hi : i < M) (hpi : P i = true) : eP P M (cn P i) = i := by
  unfold eP
  rw [fstF_eq hi ⟨hpi, rfl⟩ (fun j hj z => by have := cn_inj z.1 hpi z.2; omega) _ (Nat.le_refl _) (by omega), n_toInt (by omega)]
  rfl
theorem eP_q {P : Nat → Bool} {M q : Nat} (hM : M ≤ 10000) (hq : q < cn P M) : ∃ i, i < M ∧ P i = true ∧ cn P i = q ∧ eP P M q = i := by
  obtain ⟨i, h1, h2, h3⟩ := cn_surj M hq
  exact ⟨i, h1, h2, h3, by rw [← h3]; exact eP_cn hM h1 h2⟩
/-- what the q-th that fits comes to by the b-th number -/
def anF (W G : Nat) (P : Nat → Bool) (M b q : Nat) : Int64 := wcV W G (eP P M q) (sdF b).toInt64
def cAns (h : hp) (n : Nat) (an : Nat → Nat → Int64) : Prop := gI h 71 1 = nI n ∧ ∀ b, b < 19 → ∀ q, q < n → gL h (75 + b) q = an b q
def apB (n : Nat) (an : Nat → Int64) (S : Nat → Prop) : Prop := ∀ i, i < n → ∀ j, j < i → S i → S j → ¬ an i = an j
def tAp (n : Nat) (an : Nat → Nat → Int64) (S : Nat → Prop) : Prop := ∃ b, b < 19 ∧ apB n (an b) S
theorem c_isApartBy {h : hp} {n b : Nat} {an : Nat → Nat → Int64} {S : Nat → Prop} {Q : Int32 → Prop} (a : cAns h n an) (hn : n ≤ 24) (hb : b < 19) (hq1 : apB n (an b) S → Q 1) (hq0 : ¬ apB n (an b) S → Q 0) : w_X1_isApartBy h (nI (bsP S n)) (nI b) Q := by
  unfold w_X1_isApartBy w_X1_isApartBy_0 w_X1_isApartBy_2
  intro X hX
  have key : ∀ m i : Nat, m + i = n → (∀ i', i' < i → ∀ j, j < i' → S i' → S j → ¬ an b i' = an b j) → X (nI i) := by
    intro m
    induction m with
    | zero =>
      intro i hi d
      have ei : i = n := by omega
      subst ei
      apply hX
      unfold w_X1_isApartBy_b2
      rw [a.1]
      exact ⟨fun _ => hq1 d, fun c => absurd (nI_le (Nat.le_refl _) (by omega)) c⟩
    | succ m ih =>
      intro i hi d
      apply hX
      unfold w_X1_isApartBy_b2
      rw [a.1]
      refine ⟨fun c => absurd c (nI_ge (by omega) (by omega)), fun _ => ?_⟩
      unfold w_X1_isApartBy_13
      intro Y hY
      have key2 : ∀ m j : Nat, m + j = i → (∀ j', j' < j → S i → S j' → ¬ an b i = an b j') → Y (nI j) := by
        intro m
        induction m with
        | zero =>
          intro j hj d2
          have ej : j = i := by omega
          subst ej
          apply hY
          refine ⟨fun _ u eu => ?_, fun c => absurd (nI_le (Nat.le_refl _) (by omega)) c⟩
          rw [← nI_succ] at eu
          subst eu
          refine ih (j + 1) (by omega) (fun i' h1 j' h2 => ?_)
          rcases Nat.lt_or_ge i' j with q | q
          · exact d i' q j' h2
          · have e : i' = j := by omega
            subst e
            exact d2 j' h2
        | succ m ih2 =>
          intro j hj d2
          have b2 := bits_2 (p := S) (k := n) (i := i) (j := j) (by omega) (by omega) (by omega)
          have nxt : (S i → S j → ¬ an b i = an b j) → Y (nI (j + 1)) := fun z => ih2 (j + 1) (by omega) (fun j' h1 => by
            rcases Nat.lt_or_ge j' j with q | q
            · exact d2 j' q
            · have e : j' = j := by omega
              subst e
              exact z)
          apply hY
          unfold w_X1_isApartBy_b13
          rw [b2, ix_n (n := b) (by omega), ix_n (n := i) (by omega), ix_n (n := j) (by omega), a.2 b hb i (by omega), a.2 b hb j (by omega)]
          refine ⟨fun c => absurd c (nI_ge (by omega) (by omega)), fun _ => ⟨fun c u eu => ?_, fun c => ⟨in_n hb (by omega), in_n (by omega) (by omega), in_n hb (by omega), in_n (by omega) (by omega), fun c2 u eu => ?_, fun c2 => hq0 (fun q => ?_)⟩⟩⟩
          · rw [← nI_succ] at eu
            subst eu
            exact nxt (fun s1 s2 => absurd ⟨s1, s2⟩ c)
          · rw [← nI_succ] at eu
            subst eu
            exact nxt (fun _ _ => c2)
          · have c := Classical.not_not.mp c
            exact q i (by omega) j (by omega) c.1 c.2 c2
      exact key2 i 0 (by omega) (fun j' h => by omega)
  exact key n 0 (by omega) (fun i' h => by omega)
theorem c_isTold {h : hp} {n : Nat} {an : Nat → Nat → Int64} {S : Nat → Prop} {Q : Int32 → Prop} (a : cAns h n an) (hn : n ≤ 24) (hq1 : tAp n an S → Q 1) (hq0 : ¬ tAp n an S → Q 0) : w_X1_isToldApart h (nI (bsP S n)) Q := by
  unfold w_X1_isToldApart w_X1_isToldApart_0 w_X1_isToldApart_2
  intro X hX
  have key : ∀ m b : Nat, m + b = 19 → (∀ b', b' < b → ¬ apB n (an b') S) → X (nI b) := by
    intro m
    induction m with
    | zero =>
      intro b hb d
      have eb : b = 19 := by omega
      subst eb
      apply hX
      exact ⟨fun _ => hq0 (fun ⟨b', h1, h2⟩ => d b' h1 h2), fun c => absurd (show (19 : Int32) ≤ nI 19 by decide) c⟩
    | succ m ih =>
      intro b hb d
      apply hX
      refine ⟨fun c => absurd c (nI_ge (b := 19) (by omega) (by omega)), fun _ => c_isApartBy a hn (by omega) (fun z => ⟨fun c => absurd c (by decide), fun _ => hq1 ⟨b, by omega, z⟩⟩) (fun z => ⟨fun _ u eu => ?_, fun c => absurd rfl c⟩)⟩
      rw [← nI_succ] at eu
      subst eu
      refine ih (b + 1) (by omega) (fun b' h1 => ?_)
      rcases Nat.lt_or_ge b' b with q | q
      · exact d b' q
      · rw [show b' = b from by omega]; exact z
  exact key 19 0 (by omega) (fun b' h => by omega)
theorem c_groupOf {h : hp} {n b one : Nat} {an : Nat → Nat → Int64} {Q : Int32 → Prop} (a : cAns h n an) (hn : n ≤ 24) (hb : b < 19) (ho : one < n) (hq1 : (∀ i, i < one → ¬ an b i = an b one) → Q (nI (bsP (fun i => an b i = an b one) n))) (hq0 : ∀ i, i < one → an b i = an b one → Q (nI (bsP (fun _ => False) n))) : w_X1_groupOf h (nI one) (nI b) Q := by
  unfold w_X1_groupOf w_X1_groupOf_0 w_X1_groupOf_5
  intro X hX
  have key : ∀ m i : Nat, m + i = n → (∀ i', i' < i → i' < one → ¬ an b i' = an b one) → X (nI (bsP (fun i => an b i = an b one) i), nI i) := by
    intro m
    induction m with
    | zero =>
      intro i hi d
      have ei : i = n := by omega
      subst ei
      apply hX
      unfold w_X1_groupOf_b5
      rw [a.1]
      exact ⟨fun _ => hq1 (fun i' h1 => d i' (by omega) h1), fun c => absurd (nI_le (Nat.le_refl _) (by omega)) c⟩
    | succ m ih =>
      intro i hi d
      have nxt := ih (i + 1) (by omega)
      have eb : bsP (fun i => an b i = an b one) (i + 1) = bsP (fun i => an b i = an b one) i + ifC (an b i = an b one) (2 ^ i) 0 := rfl
      rw [eb] at nxt
      have in1 : vp_in (nI b) 19 := in_n hb (by omega)
      apply hX
      unfold w_X1_groupOf_b5
      rw [a.1, ix_n (n := b) (by omega), ix_n (n := i) (by omega), ix_n (n := one) (by omega), a.2 b hb i (by omega), a.2 b hb one ho]
      refine ⟨fun c => absurd c (nI_ge (by omega) (by omega)), fun _ => ⟨in1, in_n (by omega) (by omega), in1, in_n (by omega) (by omega), fun c u eu => ?_, fun c => ⟨fun c2 y ey u eu => ?_, fun c2 => ?_⟩⟩⟩
      · rw [← nI_succ] at eu
        subst eu
        rw [ifC_neg c, Nat.add_zero] at nxt
        refine nxt (fun i' h1 h2 => ?_)
        rcases Nat.lt_or_ge i' i with q | q
        · exact d i' q h2
        · rw [show i' = i from by omega]; exact c
      · have c2 := (nI_leI (by omega) (by omega)).mp c2
        have ey : y = nI (bsP (fun i => an b i = an b one) i) ||| jshl 1 (nI i) := ey
        rw [or_nI (bsP_lt _ i) (by omega)] at ey
        rw [← nI_succ] at eu
        subst eu ey
        rw [ifC_pos c] at nxt
        exact nxt (fun i' h1 h2 => d i' (by omega) h2)
      · have c2 : ¬ one ≤ i := fun q => c2 (nI_le q (by omega))
        have := hq0 i (by omega) c
        rw [bsP_none] at this
        exact this
  exact key n 0 (by omega) (fun i' h => by omega)
theorem c_fillAnswers {h : hp} {W G : Nat} {P : Nat → Bool} {Q : hp → Prop} (a : cWld h W G) (ok : okW W G) (fi : cFit h P ((G + 1) ^ W)) (hn : cn P ((G + 1) ^ W) ≤ 24) (hq : ∀ h1, eqE cScr h h1 → cAns h1 (cn P ((G + 1) ^ W)) (anF W G P ((G + 1) ^ W)) → Q h1) : w_X1_fillAnswers h Q := by
  obtain ⟨o1, o2, o3, o4⟩ := id ok
  have hM := pow_W (G := G) (j := W) o4 o2
  unfold w_X1_fillAnswers w_X1_fillAnswers_0 w_X1_fillAnswers_2
  intro X hX
  have key : ∀ (m b : Nat) (g : hp), m + b = 19 → eqE cScr h g → cFit g P ((G + 1) ^ W) → (∀ b', b' < b → ∀ q, q < cn P ((G + 1) ^ W) → gL g (75 + b') q = anF W G P ((G + 1) ^ W) b' q) → X (nI b, g) := by
    intro m
    induction m with
    | zero =>
      intro b g hb xg fg vg
      have eb : b = 19 := by omega
      subst eb
      apply hX
      exact ⟨fun _ => hq g xg ⟨fg.1, vg⟩, fun c => absurd (show (19 : Int32) ≤ nI 19 by decide) c⟩
    | succ m ih =>
      intro b g hb xg fg vg
      apply hX
      refine ⟨fun c => absurd c (nI_ge (b := 19) (by omega) (by omega)), fun _ => c_comeBy (cWld_e xg a) ok (fun h2 x2 v2 => ?_)⟩
      have f2 := cFit_v x2 fg
      have v2 : cVal h2 W G (sdF b).toInt64 := v2
      have vg2 : ∀ b', b' < b → ∀ q, q < cn P ((G + 1) ^ W) → gL h2 (75 + b') q = anF W G P ((G + 1) ^ W) b' q := fun b' h1 q h2' => by rw [eqE_L x2 (by unfold vScr; omega)]; exact vg b' h1 q h2'
      have xg2 := eqE_trans xg (eqE_w vScr_c x2)
      show w_X1_fillAnswers_22 Q X (nI b) 0 h2
      unfold w_X1_fillAnswers_22
      intro Y hY
      have key2 : ∀ (m q : Nat) (g : hp), m + q = cn P ((G + 1) ^ W) → eqE cScr h g → cFit g P ((G + 1) ^ W) → cVal g W G (sdF b).toInt64 → (∀ b', b' < b → ∀ q, q < cn P ((G + 1) ^ W) → gL g (75 + b') q = anF W G P ((G + 1) ^ W) b' q) → (∀ q', q' < q → gL g (75 + b) q' = anF W G P ((G + 1) ^ W) b q') → Y (nI q, g) := by
        intro m
        induction m with
        | zero =>
          intro q g hq' xg fg vl vg vb
          have eq' : q = cn P ((G + 1) ^ W) := by omega
          apply hY
          unfold w_X1_fillAnswers_b22
          rw [fg.1]
          refine ⟨fun _ u eu => ?_, fun c => absurd ?_ c⟩
          · rw [← nI_succ] at eu
            subst eu
            refine ih (b + 1) g (by omega) xg fg (fun b' h1 q' h2 => ?_)
            rcases Nat.lt_or_ge b' b with z | z
            · exact vg b' z q' h2
            · have e : b' = b := by omega
              subst e
              exact vb q' (by omega)
          · show nI (cn P ((G + 1) ^ W)) ≤ nI q
            rw [eq']
            exact nI_le (Nat.le_refl _) (by omega)
        | succ m ih2 =>
          intro q g hq' xg fg vl vg vb
          obtain ⟨i, hi, hpi, ec, ee⟩ := eP_q (P := P) (q := q) hM (by omega)
          have g72 : gI g 72 q = nI i := by rw [← ec]; exact fg.2 i hi hpi
          apply hY
          unfold w_X1_fillAnswers_b22
          rw [fg.1, ix_n (n := b) (by omega), ix_n (n := q) (by omega), g72, ix_n (n := i) (by omega), vl i hi]
          refine ⟨fun c => absurd c (nI_ge (by omega) (by omega)), fun _ => ⟨in_n (by omega) (by omega), in_n (by omega) (by omega), in_n (by omega) (by omega), in_n (by omega) (by omega), fun h6 e6 u eu => ?_⟩⟩
          rw [← nI_succ] at eu
          subst eu
          refine ih2 (q + 1) h6 (by omega) ?_ ⟨?_, fun i hi hpi => ?_⟩ (fun i hi => ?_) (fun b' h1 q' h2 => ?_) (fun q' h1 => ?_)
          · rw [e6]; exact eqE_sL xg (by unfold cScr; omega)
          · rw [e6]; exact fg.1
          · rw [e6]; exact fg.2 i hi hpi
          · rw [e6, gL_o _ _ (by omega)]; exact vl i hi
          · rw [e6, gL_o _ _ (by omega)]; exact vg b' h1 q' h2
          · by_cases z : q' = q
            · subst z
              rw [e6, gL_at]
              unfold anF
              rw [ee]
            · rw [e6, gL_k _ _ z]
              exact vb q' (by omega)
      exact key2 (cn P ((G + 1) ^ W)) 0 h2 (by omega) xg2 f2 v2 vg2 (fun q' h => by omega)
  exact key 19 0 h (by omega) (eqE_refl h) fi (fun b' h => by omega)
def grAp (n : Nat) (an : Nat → Nat → Int64) (b : Nat) : Prop := ∀ i, i < n → tAp n an (fun j => an b j = an b i)
noncomputable def enoughV (W G : Nat) (P : Nat → Bool) (M : Nat) : Int32 :=
  if 24 < cn P M then -2 else if cn P M ≤ 1 then 0 else ifC (tAp (cn P M) (anF W G P M) (fun _ => True)) 1 (ifC (∃ b, b < 19 ∧ grAp (cn P M) (anF W G P M) b) 2 3)
theorem c_areGroups {h : hp} {n b : Nat} {an : Nat → Nat → Int64} {Q : Int32 → Prop} (a : cAns h n an) (hn : n ≤ 24) (hb : b < 19) (hq1 : grAp n an b → Q 1) (hq0 : ¬ grAp n an b → Q 0) : w_X1_areGroupsToldApart h (nI b) Q := by
  unfold w_X1_areGroupsToldApart w_X1_areGroupsToldApart_0 w_X1_areGroupsToldApart_2
  intro X hX
  have key : ∀ m i : Nat, m + i = n → (∀ i', i' < i → tAp n an (fun j => an b j = an b i')) → X (nI i) := by
    intro m
    induction m with
    | zero =>
      intro i hi d
      have ei : i = n := by omega
      subst ei
      apply hX
      unfold w_X1_areGroupsToldApart_b2
      rw [a.1]
      exact ⟨fun _ => hq1 d, fun c => absurd (nI_le (Nat.le_refl _) (by omega)) c⟩
    | succ m ih =>
      intro i hi d
      have nxt : tAp n an (fun j => an b j = an b i) → X (nI (i + 1)) := fun z => ih (i + 1) (by omega) (fun i' h1 => by
        rcases Nat.lt_or_ge i' i with q | q
        · exact d i' q
        · rw [show i' = i from by omega]; exact z)
      apply hX
      unfold w_X1_areGroupsToldApart_b2
      rw [a.1]
      refine ⟨fun c => absurd c (nI_ge (by omega) (by omega)), fun _ => c_groupOf a hn hb (by omega) (fun _ => ?_) (fun i' h1 h2 => ?_)⟩
      · refine c_isTold a hn (fun z => ⟨fun _ u eu => ?_, fun c => absurd c (by decide)⟩) (fun z => ⟨fun c => absurd rfl c, fun _ => hq0 (fun w => z (w i (by omega)))⟩)
        rw [← nI_succ] at eu
        subst eu
        exact nxt z
      · refine c_isTold a hn (fun z => ⟨fun _ u eu => ?_, fun c => absurd c (by decide)⟩) (fun z => absurd ⟨0, by omega, fun _ _ _ _ q => absurd q id⟩ z)
        rw [← nI_succ] at eu
        subst eu
        have := d i' h1
        rw [h2] at this
        exact nxt this
  exact key n 0 (by omega) (fun i' h => by omega)
theorem c_enough {h : hp} {W G D : Nat} {A : Nat → Int32} {B : Nat → Int64} {k w s : Int32} {Q : Int32 → hp → Prop} (a : cWld h W G) (nz : cNz h W G) (ok : okW W G) (d : cTold 51 h D A B) (hD : D ≤ 20) (hq1 : ∀ h1, isC D k w s → eqE cScr h h1 → Q (enoughV W G (fitX W G A B k w s) ((G + 1) ^ W)) h1) (hq0 : ¬ isC D k w s → Q (-1) h) : w_X11_enough h k w s Q := by
  obtain ⟨o1, o2, o3, o4⟩ := id ok
  have hM := pow_W (G := G) (j := W) o4 o2
  unfold w_X11_enough w_X11_enough_0
  refine c_choose a nz ok d hD (fun h1 hc x1 f1 => ⟨fun q => absurd q (by decide), fun _ => ?_⟩) (fun hc => ⟨fun _ => hq0 hc, fun q => absurd rfl q⟩)
  have hq := fun h2 (e : eqE cScr h h2) => hq1 h2 hc e
  have a1 := cWld_e x1 a
  generalize fitX W G A B k w s = P at f1 hq
  have hcn := cn_le P ((G + 1) ^ W)
  unfold enoughV at hq
  unfold w_X1_enoughQuestions w_X1_enoughQuestions_0
  rw [f1.1]
  refine ⟨fun c => ⟨fun c2 => ?_, fun c2 => ?_⟩, fun c => ?_⟩
  · have c := (nI_leI (b := 24) (by omega) (by omega)).mp c
    have c2 := (nI_ltI (a := 1) (by omega) (by omega)).mp c2
    rw [if_neg (by omega), if_neg (by omega)] at hq
    refine c_fillAnswers a1 ok f1 c (fun h3 x3 a3 => ?_)
    have x13 := eqE_trans x1 x3
    have hq := hq h3 x13
    have ha := bsP_all (cn P ((G + 1) ^ W))
    have h2 : 2 ^ cn P ((G + 1) ^ W) ≤ 2 ^ 24 := Nat.pow_le_pow_right (by decide) c
    rw [a3.1, shl1 _ (by omega), ← ha, nI_pred]
    refine c_isTold a3 c (fun z => ⟨fun q => absurd q (by decide), fun _ => ?_⟩) (fun z => ⟨fun _ => ?_, fun q => absurd rfl q⟩)
    · rw [ifC_pos z] at hq
      exact hq
    · rw [ifC_neg z] at hq
      unfold w_X1_enoughQuestions_45
      intro X hX
      have key : ∀ m b : Nat, m + b = 19 → (∀ b', b' < b → ¬ grAp (cn P ((G + 1) ^ W)) (anF W G P ((G + 1) ^ W)) b') → X (nI b) := by
        intro m
        induction m with
        | zero =>
          intro b hb dd
          have eb : b = 19 := by omega
          subst eb
          apply hX
          refine ⟨fun _ => ?_, fun c => absurd (show (19 : Int32) ≤ nI 19 by decide) c⟩
          rw [ifC_neg (fun ⟨b, h1, h2⟩ => dd b h1 h2)] at hq
          exact hq
        | succ m ih =>
          intro b hb dd
          apply hX
          refine ⟨fun c => absurd c (nI_ge (b := 19) (by omega) (by omega)), fun _ => c_areGroups a3 c (by omega) (fun z => ⟨fun q => absurd q (by decide), fun _ => ?_⟩) (fun z => ⟨fun _ u eu => ?_, fun q => absurd rfl q⟩)⟩
          · rw [ifC_pos ⟨b, by omega, z⟩] at hq
            exact hq
          · rw [← nI_succ] at eu
            subst eu
            refine ih (b + 1) (by omega) (fun b' h1 => ?_)
            rcases Nat.lt_or_ge b' b with q | q
            · exact dd b' q
            · rw [show b' = b from by omega]; exact z
      exact key 19 0 (by omega) (fun b' h => by omega)
  · have c := (nI_leI (b := 24) (by omega) (by omega)).mp c
    have c2 : ¬ 1 < cn P ((G + 1) ^ W) := fun q => c2 (nI_lt (a := 1) q (by omega))
    rw [if_neg (by omega), if_pos (by omega)] at hq
    exact hq h1 x1
  · have c : ¬ cn P ((G + 1) ^ W) ≤ 24 := fun q => c (nI_le (b := 24) q (by omega))
    rw [if_pos (by omega)] at hq
    exact hq h1 x1
/-! the reference -/
def mLk (h : hp) (n : Nat) (e : Nat → Nat) (S : Nat → Prop) : Prop := (∀ q, q < n → gI h 41 q = nI (e q) ∧ e q < 10000) ∧ ∀ q, q < n → (S q ∧ gI h 42 q = 1) ∨ (¬ S q ∧ gI h 42 q = 0)
theorem m_oneEnough {h : hp} {v W G n : Nat} {e : Nat → Nat} {S : Nat → Prop} {Q : Int32 → Prop} (t : mAt h v) (a : mWld v h W G) (ok : okW W G) (hn : n ≤ 24) (l : mLk h n e S) (hq1 : tAp n (fun b q => wcV W G (e q) (sdF b).toInt64) S → Q 1) (hq0 : ¬ tAp n (fun b q => wcV W G (e q) (sdF b).toInt64) S → Q 0) : w_X12_isOneEnough h (nI n) Q := by
  have e10 : (10 : Int32).toInt = 10 := rfl
  unfold w_X12_isOneEnough w_X12_isOneEnough_0 w_X12_isOneEnough_3
  intro X hX
  have key : ∀ m b : Nat, m + b = 19 → (∀ b', b' < b → ¬ apB n (fun q => wcV W G (e q) (sdF b').toInt64) S) → X (sdF b) := by
    intro m
    induction m with
    | zero =>
      intro b hb d
      have eb : b = 19 := by omega
      subst eb
      apply hX
      exact ⟨fun _ => hq0 (fun ⟨b', h1, h2⟩ => d b' h1 h2), fun c => absurd (show (10 : Int32) ≤ sdF 19 by decide) c⟩
    | succ m ih =>
      intro b hb d
      have hs := sdF_in (b := b) (by omega)
      apply hX
      refine ⟨fun c => ?_, fun _ => ?_⟩
      · rw [t_le, hs, e10] at c
        omega
      -- behind all pairs
      have fin1 : apB n (fun q => wcV W G (e q) (sdF b).toInt64) S → w_X12_isOneEnough_102 Q X (nI n) (sdF b) 1 h := fun z => ⟨fun c => absurd c (by decide), fun _ => hq1 ⟨b, by omega, z⟩⟩
      have fin0 : ¬ apB n (fun q => wcV W G (e q) (sdF b).toInt64) S → w_X12_isOneEnough_102 Q X (nI n) (sdF b) 0 h := fun z => ⟨fun _ u eu => by
        rw [sdF_s (by omega)] at eu
        subst eu
        refine ih (b + 1) (by omega) (fun b' h1 => ?_)
        rcases Nat.lt_or_ge b' b with q | q
        · exact d b' q
        · rw [show b' = b from by omega]; exact z, fun c => absurd rfl c⟩
      unfold w_X12_isOneEnough_14
      intro Y hY
      have bad : ¬ apB n (fun q => wcV W G (e q) (sdF b).toInt64) S → ∀ i, Y (0, i) := fun z i => by
        apply hY
        exact ⟨fun _ => fin0 z, fun _ => ⟨fun _ => fin0 z, fun c => absurd rfl c⟩⟩
      have key2 : ∀ m i : Nat, m + i = n → (∀ i', i' < i → ∀ j, j < i' → S i' → S j → ¬ wcV W G (e i') (sdF b).toInt64 = wcV W G (e j) (sdF b).toInt64) → Y (1, nI i) := by
        intro m
        induction m with
        | zero =>
          intro i hi dd
          have ei : i = n := by omega
          subst ei
          apply hY
          exact ⟨fun _ => fin1 dd, fun c => absurd (nI_le (Nat.le_refl _) (by omega)) c⟩
        | succ m ih2 =>
          intro i hi dd
          apply hY
          refine ⟨fun c => absurd c (nI_ge (by omega) (by omega)), fun _ => ⟨fun c => absurd c (show ¬ (1 : Int32) = 0 by decide), fun _ => ?_⟩⟩
          show w_X12_isOneEnough_27 Q X Y (nI n) (sdF b) (nI i) h 1 0
          unfold w_X12_isOneEnough_27
          intro Z hZ
          have badZ : ¬ apB n (fun q => wcV W G (e q) (sdF b).toInt64) S → ∀ j, Z (0, j) := fun z j => by
            apply hZ
            exact ⟨fun _ u eu => bad z u, fun _ => ⟨fun _ u eu => bad z u, fun c => absurd rfl c⟩⟩
          have key3 : ∀ m j : Nat, m + j = i → (∀ j', j' < j → S i → S j' → ¬ wcV W G (e i) (sdF b).toInt64 = wcV W G (e j') (sdF b).toInt64) → Z (1, nI j) := by
            intro m
            induction m with
            | zero =>
              intro j hj d2
              have ej : j = i := by omega
              subst ej
              apply hZ
              refine ⟨fun _ u eu => ?_, fun c => absurd (nI_le (Nat.le_refl _) (by omega)) c⟩
              rw [← nI_succ] at eu
              subst eu
              refine ih2 (j + 1) (by omega) (fun i' h1 j' h2 => ?_)
              rcases Nat.lt_or_ge i' j with q | q
              · exact dd i' q j' h2
              · have e : i' = j := by omega
                subst e
                exact d2 j' h2
            | succ m ih3 =>
              intro j hj d2
              have nxt : (S i → S j → ¬ wcV W G (e i) (sdF b).toInt64 = wcV W G (e j) (sdF b).toInt64) → Z (1, nI (j + 1)) := fun z => ih3 (j + 1) (by omega) (fun j' h1 => by
                rcases Nat.lt_or_ge j' j with q | q
                · exact d2 j' q
                · have e : j' = j := by omega
                  subst e
                  exact z)
              obtain ⟨li1, li2⟩ := l.1 i (by omega)
              obtain ⟨lj1, lj2⟩ := l.1 j (by omega)
              have in1 : vp_in (nI i) 24 := in_n (by omega) (by omega)
              have in2 : vp_in (nI j) 24 := in_n (by omega) (by omega)
              apply hZ
              unfold w_X12_isOneEnough_b27
              rw [ix_n (n := i) (by omega), ix_n (n := j) (by omega), li1, lj1]
              refine ⟨fun c => absurd c (nI_ge (by omega) (by omega)), fun _ => ⟨fun c => absurd c (show ¬ (1 : Int32) = 0 by decide), fun _ => ⟨in1, fun c u eu => ?_, fun c => ⟨in2, fun c2 u eu => ?_, fun c2 => ⟨in1, m_worldComes t a ok (by omega) ⟨in2, m_worldComes t a ok (by omega) ⟨fun c3 u eu => ?_, fun c3 u eu => ?_⟩⟩⟩⟩⟩⟩⟩
              · rw [← nI_succ] at eu
                subst eu
                refine nxt (fun s1 _ => ?_)
                rcases l.2 i (by omega) with q | q
                · rw [q.2] at c; exact absurd c (by decide)
                · exact absurd s1 q.1
              · rw [← nI_succ] at eu
                subst eu
                refine nxt (fun _ s2 => ?_)
                rcases l.2 j (by omega) with q | q
                · rw [q.2] at c2; exact absurd c2 (by decide)
                · exact absurd s2 q.1
              · rw [← nI_succ] at eu
                subst eu
                exact nxt (fun _ _ => c3)
              · have si : S i := by
                  rcases l.2 i (by omega) with q | q
                  · exact q.1
                  · exact absurd q.2 c
                have sj : S j := by
                  rcases l.2 j (by omega) with q | q
                  · exact q.1
                  · exact absurd q.2 c2
                exact badZ (fun z => z i (by omega) j (by omega) si sj c3) u
          exact key3 i 0 (by omega) (fun j' h => by omega)
      exact key2 n 0 (by omega) (fun i' h => by omega)
  have e0 : sdF 0 = -9 := by decide
  have := key 19 0 (by omega) (fun b' h => by omega)
  rw [e0] at this
  exact this
theorem m_twoEnough {h : hp} {v W G n : Nat} {e : Nat → Nat} {S : Nat → Prop} {Q : Int32 → hp → Prop} (t : mAt h v) (a : mWld v h W G) (ok : okW W G) (hn : n ≤ 24) (l : mLk h n e S) (hq1 : ∀ h1, (∃ b, b < 19 ∧ grAp n (fun b q => wcV W G (e q) (sdF b).toInt64) b) → eqE mScr h h1 → Q 1 h1) (hq0 : ∀ h1, ¬ (∃ b, b < 19 ∧ grAp n (fun b q => wcV W G (e q) (sdF b).toInt64) b) → eqE mScr h h1 → Q 0 h1) : w_X12_areTwoEnough h (nI n) Q := by
  have e10 : (10 : Int32).toInt = 10 := rfl
  unfold w_X12_areTwoEnough w_X12_areTwoEnough_0 w_X12_areTwoEnough_3
  intro X hX
  have l1 := l.1
  have key : ∀ (m b : Nat) (g : hp), m + b = 19 → eqE mScr h g → (∀ q, q < n → gI g 41 q = nI (e q)) → (∀ b', b' < b → ¬ grAp n (fun b q => wcV W G (e q) (sdF b).toInt64) b') → X (sdF b, g) := by
    intro m
    induction m with
    | zero =>
      intro b g hb xg lg d
      have eb : b = 19 := by omega
      subst eb
      apply hX
      exact ⟨fun _ => hq0 g (fun ⟨b', h1, h2⟩ => d b' h1 h2) xg, fun c => absurd (show (10 : Int32) ≤ sdF 19 by decide) c⟩
    | succ m ih =>
      intro b g hb xg lg d
      have hs := sdF_in (b := b) (by omega)
      apply hX
      refine ⟨fun c => ?_, fun _ => ?_⟩
      · have c : (10 : Int32) ≤ sdF b := c
        rw [t_le, hs, e10] at c
        omega
      have fin1 : ∀ g, eqE mScr h g → grAp n (fun b q => wcV W G (e q) (sdF b).toInt64) b → w_X12_areTwoEnough_97 Q X (nI n) (sdF b) 1 g := fun g xg z => ⟨fun c => absurd c (by decide), fun _ => hq1 g ⟨b, by omega, z⟩ xg⟩
      have fin0 : ∀ g, eqE mScr h g → (∀ q, q < n → gI g 41 q = nI (e q)) → ¬ grAp n (fun b q => wcV W G (e q) (sdF b).toInt64) b → w_X12_areTwoEnough_97 Q X (nI n) (sdF b) 0 g := fun g xg lg z => ⟨fun _ u eu => by
        rw [sdF_s (by omega)] at eu
        subst eu
        refine ih (b + 1) g (by omega) xg lg (fun b' h1 => ?_)
        rcases Nat.lt_or_ge b' b with q | q
        · exact d b' q
        · rw [show b' = b from by omega]; exact z, fun c => absurd rfl c⟩
      show w_X12_areTwoEnough_14 Q X (nI n) (sdF b) 1 0 g
      unfold w_X12_areTwoEnough_14
      intro Y hY
      have bad : ∀ g, eqE mScr h g → (∀ q, q < n → gI g 41 q = nI (e q)) → ¬ grAp n (fun b q => wcV W G (e q) (sdF b).toInt64) b → ∀ i, Y (0, i, g) := fun g xg lg z i => by
        apply hY
        exact ⟨fun _ => fin0 g xg lg z, fun _ => ⟨fun _ => fin0 g xg lg z, fun c => absurd rfl c⟩⟩
      have key2 : ∀ (m i : Nat) (g : hp), m + i = n → eqE mScr h g → (∀ q, q < n → gI g 41 q = nI (e q)) → (∀ i', i' < i → tAp n (fun b q => wcV W G (e q) (sdF b).toInt64) (fun j => wcV W G (e j) (sdF b).toInt64 = wcV W G (e i') (sdF b).toInt64)) → Y (1, nI i, g) := by
        intro m
        induction m with
        | zero =>
          intro i g hi xg lg dd
          have ei : i = n := by omega
          subst ei
          apply hY
          exact ⟨fun _ => fin1 g xg dd, fun c => absurd (nI_le (Nat.le_refl _) (by omega)) c⟩
        | succ m ih2 =>
          intro i g hi xg lg dd
          apply hY
          unfold w_X12_areTwoEnough_b14
          rw [ix_n (n := i) (by omega), lg i (by omega)]
          have hei := (l1 i (by omega)).2
          refine ⟨fun c => absurd c (nI_ge (by omega) (by omega)), fun _ => ⟨fun c => absurd c (show ¬ (1 : Int32) = 0 by decide), fun _ => ⟨in_n (by omega) (by omega), m_worldComes (mAt_e xg t) (mWld_e xg a) ok (by omega) ?_⟩⟩⟩
          show w_X12_areTwoEnough_42 Q X Y (nI n) (sdF b) (nI i) (wcV W G (e i) (sdF b).toInt64) 0 g
          unfold w_X12_areTwoEnough_42
          intro Z hZ
          have key3 : ∀ (m j : Nat) (g : hp), m + j = n → eqE mScr h g → (∀ q, q < n → gI g 41 q = nI (e q)) → (∀ q, q < j → (wcV W G (e q) (sdF b).toInt64 = wcV W G (e i) (sdF b).toInt64 ∧ gI g 42 q = 1) ∨ (¬ wcV W G (e q) (sdF b).toInt64 = wcV W G (e i) (sdF b).toInt64 ∧ gI g 42 q = 0)) → Z (nI j, g) := by
            intro m
            induction m with
            | zero =>
              intro j g hj xg lg kg
              have ej : j = n := by omega
              subst ej
              apply hZ
              refine ⟨fun _ => m_oneEnough (S := fun q => wcV W G (e q) (sdF b).toInt64 = wcV W G (e i) (sdF b).toInt64) (mAt_e xg t) (mWld_e xg a) ok hn ⟨fun q hq => ⟨lg q hq, (l1 q hq).2⟩, kg⟩ (fun z u eu => ?_) (fun z u eu => ?_), fun c => absurd (nI_le (Nat.le_refl _) (by omega)) c⟩
              · rw [← nI_succ] at eu
                subst eu
                refine ih2 (i + 1) g (by omega) xg lg (fun i' h1 => ?_)
                rcases Nat.lt_or_ge i' i with q | q
                · exact dd i' q
                · rw [show i' = i from by omega]; exact z
              · exact bad g xg lg (fun w => z (w i (by omega))) u
            | succ m ih3 =>
              intro j g hj xg lg kg
              have hej := (l1 j (by omega)).2
              apply hZ
              unfold w_X12_areTwoEnough_b42
              rw [ix_n (n := j) (by omega), lg j (by omega)]
              refine ⟨fun c => absurd c (nI_ge (by omega) (by omega)), fun _ => ⟨in_n (by omega) (by omega), m_worldComes (mAt_e xg t) (mWld_e xg a) ok (by omega) ?_⟩⟩
              have put : ∀ r : Int32, jz r = r → ((wcV W G (e j) (sdF b).toInt64 = wcV W G (e i) (sdF b).toInt64 ∧ r = 1) ∨ (¬ wcV W G (e j) (sdF b).toInt64 = wcV W G (e i) (sdF b).toInt64 ∧ r = 0)) → w_X12_areTwoEnough_78 Q X Y Z (nI n) (sdF b) (nI i) (wcV W G (e i) (sdF b).toInt64) (nI j) g r (nI j) := by
                intro r hz hr
                refine ⟨in_n (by omega) (by omega), fun h13 e13 u eu => ?_⟩
                rw [ix_n (by omega), hz] at e13
                rw [← nI_succ] at eu
                subst eu
                refine ih3 (j + 1) h13 (by omega) ?_ (fun q hq => ?_) (fun q hq => ?_)
                · rw [e13]; exact eqE_sI xg (by unfold mScr; omega)
                · rw [e13, gI_o _ _ (by decide)]; exact lg q hq
                · by_cases z : q = j
                  · subst z
                    rw [e13, gI_at]
                    exact hr
                  · rw [e13, gI_k _ _ z]
                    exact kg q (by omega)
              exact ⟨fun c => put 0 (by decide) (Or.inr ⟨c, rfl⟩), fun c => put 1 (by decide) (Or.inl ⟨c, rfl⟩)⟩
          exact key3 n 0 g (by omega) xg lg (fun q h => by omega)
      exact key2 n 0 g (by omega) xg lg (fun i' h => by omega)
  have e0 : sdF 0 = -9 := by decide
  have := key 19 0 h (by omega) (eqE_refl h) (fun q hq => (l1 q hq).1) (fun b' h => by omega)
  rw [e0] at this
  exact this
theorem m_enough {h : hp} {v W G D : Nat} {A : Nat → Int32} {B : Nat → Int64} {k w s : Int32} {Q : Int32 → hp → Prop} (t : mAt h v) (a : mWld v h W G) (ok : okW W G) (d : mTold h D A B) (hD : D ≤ 20) (hq1 : ∀ h1, isC D k w s → eqE mScr h h1 → Q (enoughV W G (fitX W G A B k w s) ((G + 1) ^ W)) h1) (hq0 : ¬ isC D k w s → Q (-1) h) : w_X12_enough h k w s Q := by
  obtain ⟨o1, o2, o3, o4⟩ := id ok
  have hM := pow_W (G := G) (j := W) o4 o2
  unfold w_X12_enough w_X12_enough_0
  refine m_isAsked d hD (fun hc => ⟨fun _ => m_fillsX t a ok d hD hc (fun h1 x1 f1 => ?_), fun q => absurd q (by decide)⟩) (fun hc => ⟨fun q => absurd rfl q, fun _ => hq0 hc⟩)
  have hq := fun h2 (e : eqE mScr h h2) => hq1 h2 hc e
  generalize fitX W G A B k w s = P at f1 hq
  have hcn := cn_le P ((G + 1) ^ W)
  unfold enoughV at hq
  refine ⟨fun c => ⟨fun c2 => ?_, fun c2 => ?_⟩, fun c => ?_⟩
  · have c := (nI_leI (b := 24) (by omega) (by omega)).mp c
    have c2 := (nI_leI (a := 2) (by omega) (by omega)).mp c2
    rw [if_neg (by omega), if_neg (by omega)] at hq
    unfold w_X12_enough_45
    intro X hX
    have wa : ∀ {R : Int32 → Prop} {g : hp}, eqE mScr h g → R (nI ((G + 1) ^ W)) → w_X12_worldAll g R := fun eg hr => m_worldAll (mAt_e eg t) (mWld_e eg a) ok hr
    have tg : ∀ {g : hp}, eqE mScr h g → mAt g v := fun e => mAt_e e t
    have ag : ∀ {g : hp}, eqE mScr h g → mWld v g W G := fun e => mWld_e e a
    generalize hMe : (G + 1) ^ W = M at hM f1 hq wa hcn c c2 hX
    have key : ∀ (n j : Nat) (g : hp), n + j = M → eqE mScr h g → mFit g P M → (∀ q, q < cn P j → gI g 41 q = nI (eP P M q) ∧ gI g 42 q = 1) → X (nI (cn P j), nI j, g) := by
      intro n
      induction n with
      | zero =>
        intro j g hj xg fg lg
        have ej : j = M := by omega
        subst ej
        have lk : mLk g (cn P j) (eP P j) (fun _ => True) := ⟨fun q hq => ⟨(lg q hq).1, by obtain ⟨i, h1, _, _, h4⟩ := eP_q (P := P) hM hq; omega⟩, fun q hq => Or.inl ⟨trivial, (lg q hq).2⟩⟩
        apply hX
        refine wa xg ⟨fun _ => ?_, fun c => absurd (nI_le (Nat.le_refl _) (by omega)) c⟩
        refine m_oneEnough (tg xg) (ag xg) ok c lk (fun z => ⟨fun q => absurd q (by decide), fun _ => ?_⟩) (fun z => ⟨fun _ => ?_, fun q => absurd rfl q⟩)
        · have z : tAp (cn P j) (anF W G P j) (fun _ => True) := z
          have := hq g xg
          rw [ifC_pos z] at this
          exact this
        · have z : ¬ tAp (cn P j) (anF W G P j) (fun _ => True) := z
          refine m_twoEnough (tg xg) (ag xg) ok c lk (fun h2 z2 x2 => ⟨fun q => absurd q (by decide), fun _ => ?_⟩) (fun h2 z2 x2 => ⟨fun _ => ?_, fun q => absurd rfl q⟩)
          · have z2 : ∃ b, b < 19 ∧ grAp (cn P j) (anF W G P j) b := z2
            have := hq h2 (eqE_trans xg x2)
            rw [ifC_neg z, ifC_pos z2] at this
            exact this
          · have z2 : ¬ ∃ b, b < 19 ∧ grAp (cn P j) (anF W G P j) b := z2
            have := hq h2 (eqE_trans xg x2)
            rw [ifC_neg z, ifC_neg z2] at this
            exact this
      | succ n ih =>
        intro j g hj xg fg lg
        have nxt := ih (j + 1)
        apply hX
        unfold w_X12_enough_b45
        rw [ix_n (n := j) (by omega), fg j (by omega)]
        refine wa xg ⟨fun c => absurd c (nI_ge (by omega) (by omega)), fun _ => ⟨in_n (by omega) (by omega), fun c3 => ?_, fun c3 u eu => ?_⟩⟩
        · have pj : P j = true := by
            by_cases z : P j = true
            · exact z
            · rw [if_neg z] at c3; exact absurd rfl c3
          have hl := cn_lt (P := P) (show j < M by omega) pj
          have ec : cn P (j + 1) = cn P j + 1 := by
            show cn P j + _ = _
            rw [if_pos pj]
          have ee := eP_cn hM (show j < M by omega) pj
          rw [ec] at nxt
          have in1 : vp_in (nI (cn P j)) 24 := in_n (by omega) (by omega)
          refine ⟨in1, fun h18 e18 => ⟨in1, fun h19 e19 y ey u eu => ?_⟩⟩
          rw [ix_n (by omega)] at e18 e19
          rw [show jz 1 = 1 from by decide] at e19
          rw [← nI_succ] at ey eu
          subst ey eu
          refine nxt h19 (by omega) ?_ (fun i hi => ?_) (fun q hq => ?_)
          · rw [e19, e18]; exact eqE_sI (eqE_sI xg (by unfold mScr; omega)) (by unfold mScr; omega)
          · rw [e19, gI_o _ _ (by decide), e18, gI_o _ _ (by decide)]; exact fg i hi
          · by_cases z : q = cn P j
            · rw [z, e19, gI_o _ _ (by decide), e18, gI_at, gI_at, ee]
              exact ⟨rfl, rfl⟩
            · rw [e19, gI_o _ _ (by decide), e18, gI_k _ _ z, gI_k _ _ z, gI_o _ _ (by decide)]
              exact lg q (by omega)
        · have pj : ¬ P j = true := fun z => by rw [if_pos z] at c3; exact absurd c3 (by decide)
          have ec : cn P (j + 1) = cn P j := by
            show cn P j + _ = _
            rw [if_neg pj, Nat.add_zero]
          rw [← nI_succ] at eu
          subst eu
          rw [ec] at nxt
          exact nxt g (by omega) xg fg lg
    exact key M 0 h1 (by omega) x1 f1 (fun q h => absurd h (by unfold cn; omega))
  · have c := (nI_leI (b := 24) (by omega) (by omega)).mp c
    have c2 : ¬ 2 ≤ cn P ((G + 1) ^ W) := fun q => c2 (nI_le (a := 2) q (by omega))
    rw [if_neg (by omega), if_pos (by omega)] at hq
    exact hq h1 x1
  · have c : ¬ cn P ((G + 1) ^ W) ≤ 24 := fun q => c (nI_le (b := 24) q (by omega))
    rw [if_pos (by omega)] at hq
    exact hq h1 x1
/-! rests, once more -/
def cg (P : Nat) (a b : Int) : Prop := a % (P : Int) = b % (P : Int)
theorem cg_r {P : Nat} (a : Int) : cg P a a := rfl
theorem cg_s {P : Nat} {a b : Int} (h : cg P a b) : cg P b a := Eq.symm h
theorem cg_t {P : Nat} {a b c : Int} (h : cg P a b) (h' : cg P b c) : cg P a c := Eq.trans h h'
theorem cg_mod {P : Nat} (a : Int) : cg P (a % (P : Int)) a := Int.emod_emod_of_dvd a (Int.dvd_refl _)
theorem cg_add {P : Nat} {a b a' b' : Int} (h : cg P a a') (h' : cg P b b') : cg P (a + b) (a' + b') := by
  unfold cg at h h' ⊢
  rw [Int.add_emod, h, h', ← Int.add_emod]
theorem cg_sub {P : Nat} {a b a' b' : Int} (h : cg P a a') (h' : cg P b b') : cg P (a - b) (a' - b') := by
  unfold cg at h h' ⊢
  rw [Int.sub_emod, h, h', ← Int.sub_emod]
theorem cg_mul {P : Nat} {a b a' b' : Int} (h : cg P a a') (h' : cg P b b') : cg P (a * b) (a' * b') := by
  unfold cg at h h' ⊢
  rw [Int.mul_emod, h, h', ← Int.mul_emod]
theorem rs_cg {P : Nat} (ok : okP P) {a b : Int} (h : cg P a b) : rsV P a = rsV P b := (rsV_eq ok a b).mpr h
theorem rs_96 {P : Nat} (ok : okP P) (z : Int) : (rsV P z).toInt = z % P ∧ 0 ≤ (rsV P z).toInt ∧ (rsV P z).toInt ≤ 96 ∧ cg P (rsV P z).toInt z := by
  have h := rsV_in ok.1 ok.2 z
  have := ok.2
  refine ⟨h.1, by rw [h.1]; omega, by rw [h.1]; omega, ?_⟩
  rw [h.1]
  exact cg_mod z
theorem t_mm {y z : Int32} (hy : -96 ≤ y.toInt ∧ y.toInt ≤ 96) (hz : 0 ≤ z.toInt ∧ z.toInt ≤ 96) : (y * z).toInt = y.toInt * z.toInt ∧ -9216 ≤ y.toInt * z.toInt ∧ y.toInt * z.toInt ≤ 9216 := by
  have := mul_in hy.1 hy.2 hz.1 hz.2
  exact ⟨t_mul (by omega) (by omega), by omega, by omega⟩
theorem t_ms {x y z : Int32} (hx : 0 ≤ x.toInt ∧ x.toInt ≤ 96) (hy : -96 ≤ y.toInt ∧ y.toInt ≤ 96) (hz : 0 ≤ z.toInt ∧ z.toInt ≤ 96) : (x - y * z).toInt = x.toInt - y.toInt * z.toInt := by
  obtain ⟨e, h1, h2⟩ := t_mm hy hz
  rw [t_sub (by rw [e]; omega) (by rw [e]; omega), e]
theorem t_ma {x y z : Int32} (hx : 0 ≤ x.toInt ∧ x.toInt ≤ 96) (hy : -96 ≤ y.toInt ∧ y.toInt ≤ 96) (hz : 0 ≤ z.toInt ∧ z.toInt ≤ 96) : (x + y * z).toInt = x.toInt + y.toInt * z.toInt := by
  obtain ⟨e, h1, h2⟩ := t_mm hy hz
  rw [t_add (by rw [e]; omega) (by rw [e]; omega), e]
/-! by what a number comes to 1 -/
def primeB (P : Nat) : Bool := decide (2 ≤ P) && (List.range P).all (fun k => decide (k < 2) || decide (P % k ≠ 0))
def invB (P a : Nat) : Bool := (List.range P).any (fun b => decide (1 ≤ b) && decide (a * b % P = 1))
theorem inv_all : (List.range 98).all (fun P => !primeB P || (List.range P).all (fun a => decide (a = 0) || invB P a)) = true := by decide +kernel
def isPr (P : Nat) : Prop := okP P ∧ ∀ k, 2 ≤ k → k < P → ¬ P % k = 0
theorem inv_ex {P : Nat} (hp : isPr P) {z : Int} (hz : ¬ z % (P : Int) = 0) : ∃ b : Nat, 1 ≤ b ∧ b < P ∧ z * (b : Int) % (P : Int) = 1 := by
  obtain ⟨⟨h1, h2⟩, h3⟩ := hp
  have hB : primeB P = true := by
    unfold primeB
    rw [Bool.and_eq_true]
    refine ⟨decide_eq_true h1, List.all_eq_true.mpr (fun k hk => ?_)⟩
    have hk := List.mem_range.mp hk
    rw [Bool.or_eq_true]
    rcases Nat.lt_or_ge k 2 with q | q
    · exact Or.inl (decide_eq_true q)
    · exact Or.inr (decide_eq_true (h3 k q hk))
  have ha := List.all_eq_true.mp inv_all P (List.mem_range.mpr (by omega))
  rw [hB, Bool.not_true, Bool.false_or] at ha
  have n1 := Int.emod_nonneg z (show (P : Int) ≠ 0 by omega)
  have n2 := Int.emod_lt_of_pos z (show (0 : Int) < P by omega)
  have hb := List.all_eq_true.mp ha (z % P).toNat (List.mem_range.mpr (by omega))
  rw [Bool.or_eq_true] at hb
  rcases hb with q | q
  · have := of_decide_eq_true q; omega
  · unfold invB at q
    obtain ⟨b, hb1, hb2⟩ := List.any_eq_true.mp q
    rw [Bool.and_eq_true] at hb2
    have b1 := of_decide_eq_true hb2.1
    have b2 := of_decide_eq_true hb2.2
    refine ⟨b, b1, List.mem_range.mp hb1, ?_⟩
    have e : ((z % P).toNat : Int) = z % P := by omega
    have c : cg P (z * b) (((z % P).toNat * b : Nat) : Int) := by
      rw [Int.natCast_mul, e]
      exact cg_mul (cg_s (cg_mod z)) (cg_r _)
    show z * b % P = 1
    rw [show z * b % P = (((z % P).toNat * b : Nat) : Int) % P from c, ← Int.natCast_emod, b2]
    rfl
def ivS (P : Nat) (z : Int) : Nat → Nat
  | 0 => 0
  | n + 1 => if z * ((P - (n + 1) : Nat) : Int) % (P : Int) = 1 then P - (n + 1) else ivS P z n
def ivN (P : Nat) (z : Int) : Nat := ivS P z (P - 1)
theorem ivS_at {P b : Nat} {z : Int} (hb : b < P) (h1 : z * (b : Int) % (P : Int) = 1) : ∀ n, n ≤ P - 1 → P - n ≤ b → 1 ≤ ivS P z n ∧ ivS P z n < P ∧ z * (ivS P z n : Int) % (P : Int) = 1
  | 0, _, h => by omega
  | n + 1, hn, h => by
    unfold ivS
    by_cases c : z * ((P - (n + 1) : Nat) : Int) % (P : Int) = 1
    · rw [if_pos c]
      exact ⟨by omega, by omega, c⟩
    · rw [if_neg c]
      have : ¬ P - (n + 1) = b := fun q => c (by rw [q]; exact h1)
      exact ivS_at hb h1 n (by omega) (by omega)
theorem ivN_at {P : Nat} (hp : isPr P) {z : Int} (hz : ¬ z % (P : Int) = 0) : 1 ≤ ivN P z ∧ ivN P z < P ∧ z * (ivN P z : Int) % (P : Int) = 1 := by
  obtain ⟨b, h1, h2, h3⟩ := inv_ex hp hz
  exact ivS_at h2 h3 (P - 1) (Nat.le_refl _) (by omega)
theorem ivS_le {P : Nat} {z : Int} : ∀ n, n ≤ P - 1 → ivS P z n ≤ P
  | 0, _ => Nat.zero_le _
  | n + 1, h => by
    unfold ivS
    split
    · omega
    · exact ivS_le n (by omega)
theorem c_turned {h : hp} {o P : Nat} {x : Int32} {z : Int} {Q : Int32 → Prop} (aP : gI h o 1 = nI P) (ok : okP P) (ex : x = rsV P z) (hq : Q (nI (ivN P z))) : w_X6_turnedOver o h x Q := by
  have hP := ok.2
  have hP2 := ok.1
  obtain ⟨r1, r2, r3, r4⟩ := rs_96 ok z
  rw [← ex] at r1 r2 r3 r4
  unfold w_X6_turnedOver w_X6_turnedOver_0 w_X6_turnedOver_2
  intro X hX
  have key : ∀ n, n ≤ P - 1 → Q (nI (ivS P z n)) → X (nI (P - n)) := by
    intro n
    induction n with
    | zero =>
      intro _ hq
      apply hX
      unfold w_X6_turnedOver_b2
      rw [aP]
      exact ⟨fun _ => hq, fun c => absurd (nI_le (Nat.le_refl _) (by omega)) c⟩
    | succ n ih =>
      intro hn hq
      unfold ivS at hq
      have eb := n_toInt (n := P - (n + 1)) (by omega)
      obtain ⟨m1, m2, m3⟩ := t_mm (y := x) (z := nI (P - (n + 1))) ⟨by omega, by omega⟩ ⟨by rw [eb]; omega, by rw [eb]; omega⟩
      rw [eb] at m1
      apply hX
      unfold w_X6_turnedOver_b2
      rw [aP]
      refine ⟨fun c => absurd c (nI_ge (by omega) (by omega)), fun _ => c_restOf aP ok (by rw [tL_int, m1]; rw [eb] at m2; omega) ?_⟩
      rw [tL_int, m1, rs_cg ok (cg_mul r4 (cg_r _))]
      have hin := (rs_96 ok (z * ((P - (n + 1) : Nat) : Int))).1
      have iff : rsV P (z * ((P - (n + 1) : Nat) : Int)) = 1 ↔ z * ((P - (n + 1) : Nat) : Int) % (P : Int) = 1 := by
        rw [t_eq, hin]
        exact Iff.rfl
      refine ⟨fun c u eu => ?_, fun c => ?_⟩
      · rw [iff] at c
        rw [if_neg c] at hq
        rw [← nI_succ, show P - (n + 1) + 1 = P - n from by omega] at eu
        subst eu
        exact ih (by omega) hq
      · rw [iff] at c
        rw [if_pos c] at hq
        exact hq
  have := key (P - 1) (Nat.le_refl _) hq
  rw [show P - (P - 1) = 1 from by omega] at this
  exact this
theorem m_turned {h : hp} {s P : Nat} {x : Int32} {z : Int} {Q : Int32 → Prop} (t : mAt h s) (aP : gI h 12 s = nI P) (hp : isPr P) (ex : x = rsV P z) (hz : ¬ z % (P : Int) = 0) (hq : Q (nI (ivN P z))) : w_X12_turned h x Q := by
  have ok := hp.1
  have hP := ok.2
  have hP2 := ok.1
  obtain ⟨r1, r2, r3, r4⟩ := rs_96 ok z
  rw [← ex] at r1 r2 r3 r4
  obtain ⟨b, hb1, hb2, hb3⟩ := inv_ex hp hz
  unfold w_X12_turned w_X12_turned_0 w_X12_turned_2
  intro X hX
  have key : ∀ n, n ≤ P - 1 → P - n ≤ b → Q (nI (ivS P z n)) → X (nI (P - n)) := by
    intro n
    induction n with
    | zero => intro _ hb _; omega
    | succ n ih =>
      intro hn hbn hq
      unfold ivS at hq
      have eb := n_toInt (n := P - (n + 1)) (by omega)
      obtain ⟨m1, m2, m3⟩ := t_mm (y := x) (z := nI (P - (n + 1))) ⟨by omega, by omega⟩ ⟨by rw [eb]; omega, by rw [eb]; omega⟩
      rw [eb] at m1
      apply hX
      refine m_restOf t aP ok ?_
      show (rsV P (x * nI (P - (n + 1))).toInt = 1 → _) ∧ (¬ rsV P (x * nI (P - (n + 1))).toInt = 1 → _)
      rw [m1, rs_cg ok (cg_mul r4 (cg_r _))]
      have hin := (rs_96 ok (z * ((P - (n + 1) : Nat) : Int))).1
      have iff : rsV P (z * ((P - (n + 1) : Nat) : Int)) = 1 ↔ z * ((P - (n + 1) : Nat) : Int) % (P : Int) = 1 := by
        rw [t_eq, hin]
        exact Iff.rfl
      refine ⟨fun c => ?_, fun c u eu => ?_⟩
      · rw [iff] at c
        rw [if_pos c] at hq
        exact hq
      · rw [iff] at c
        rw [if_neg c] at hq
        have : ¬ P - (n + 1) = b := fun q => c (by rw [q]; exact hb3)
        have eu : u = nI (P - (n + 1)) + 1 := eu
        rw [← nI_succ, show P - (n + 1) + 1 = P - n from by omega] at eu
        subst eu
        exact ih (by omega) (by omega) hq
  have := key (P - 1) (Nat.le_refl _) (by omega) hq
  rw [show P - (P - 1) = 1 from by omega] at this
  exact this
/-! rows by shares -/
abbrev useP (set i j : Nat) : Prop := ¬ j = i ∧ set / 2 ^ j % 2 = 1
def pcF (AT : Nat → Nat) (set i : Nat) : Nat → Nat → Int
  | 0, k => if k = 0 then 1 else 0
  | j + 1, k => if useP set i j then (if k = 0 then 0 else pcF AT set i j (k - 1)) - (AT j : Int) * pcF AT set i j k else pcF AT set i j k
def peF (AT : Nat → Nat) (set i : Nat) (x : Int) : Nat → Int
  | 0 => 1
  | j + 1 => if useP set i j then peF AT set i x j * (x - (AT j : Int)) else peF AT set i x j
def ctU (set i : Nat) : Nat → Nat
  | 0 => 0
  | j + 1 => ctU set i j + (if useP set i j then 1 else 0)
def ivF (P : Nat) (AT : Nat → Nat) (set i : Nat) : Nat → Int
  | 0 => 1
  | j + 1 => if useP set i j then ivF P AT set i j * (ivN P ((AT i : Int) - (AT j : Int)) : Int) else ivF P AT set i j
theorem pcF_0 {AT : Nat → Nat} {set i : Nat} : ∀ (j k : Nat), ctU set i j < k → pcF AT set i j k = 0
  | 0, k, h => if_neg (by unfold ctU at h; omega)
  | j + 1, k, h => by
    have h : ctU set i j + (if useP set i j then 1 else 0) < k := h
    show (if useP set i j then (if k = 0 then 0 else pcF AT set i j (k - 1)) - (AT j : Int) * pcF AT set i j k else pcF AT set i j k) = 0
    by_cases c : useP set i j
    · rw [if_pos c] at h ⊢
      rw [if_neg (by omega), pcF_0 j (k - 1) (by omega), pcF_0 j k (by omega), Int.mul_zero]
      rfl
    · rw [if_neg c] at h ⊢
      exact pcF_0 j k (by omega)
def sm (g : Nat → Int) (x : Int) : Nat → Int
  | 0 => 0
  | n + 1 => sm g x n + g n * x ^ n
def hrF (g : Nat → Int) (x : Int) : Nat → Int → Int
  | 0, acc => acc
  | n + 1, acc => hrF g x n (acc * x + g n)
theorem hrF_sm {g : Nat → Int} {x : Int} : ∀ (n : Nat) (acc : Int), hrF g x n acc = acc * x ^ n + sm g x n
  | 0, acc => by
    show acc = acc * x ^ 0 + 0
    rw [Int.pow_zero, Int.mul_one, Int.add_zero]
  | n + 1, acc => by
    show hrF g x n (acc * x + g n) = acc * x ^ (n + 1) + (sm g x n + g n * x ^ n)
    rw [hrF_sm n, Int.add_mul, Int.pow_succ, Int.mul_assoc, Int.mul_comm x (x ^ n)]
    omega
theorem sm_lin {f g : Nat → Int} {x c : Int} : ∀ n, sm (fun k => f k + c * g k) x n = sm f x n + c * sm g x n
  | 0 => by
    show (0 : Int) = 0 + c * 0
    rw [Int.mul_zero]; rfl
  | n + 1 => by
    show sm (fun k => f k + c * g k) x n + (f n + c * g n) * x ^ n = sm f x n + f n * x ^ n + c * (sm g x n + g n * x ^ n)
    rw [sm_lin n, Int.add_mul, Int.mul_add, Int.mul_assoc]
    omega
theorem sm_shift {g : Nat → Int} {x : Int} : ∀ n, sm (fun k => if k = 0 then 0 else g (k - 1)) x (n + 1) = x * sm g x n
  | 0 => by
    show (0 : Int) + (if 0 = 0 then 0 else g (0 - 1)) * x ^ 0 = x * 0
    rw [if_pos rfl, Int.zero_mul, Int.mul_zero]; rfl
  | n + 1 => by
    show sm (fun k => if k = 0 then 0 else g (k - 1)) x (n + 1) + (if n + 1 = 0 then 0 else g (n + 1 - 1)) * x ^ (n + 1) = x * (sm g x n + g n * x ^ n)
    rw [sm_shift n, if_neg (by omega), Nat.add_sub_cancel, Int.mul_add, Int.pow_succ, ← Int.mul_assoc, Int.mul_comm x (g n * x ^ n)]
theorem sm_pc {AT : Nat → Nat} {set i : Nat} {x : Int} : ∀ (j n : Nat), ctU set i j < n → sm (pcF AT set i j) x n = peF AT set i x j
  | 0, n, h => by
    have h : 0 < n := h
    have e : ∀ n, 0 < n → sm (pcF AT set i 0) x n = 1 := by
      intro n
      induction n with
      | zero => intro h; omega
      | succ n ih =>
        intro _
        show sm (pcF AT set i 0) x n + (if n = 0 then 1 else 0) * x ^ n = 1
        by_cases c : n = 0
        · subst c
          rw [if_pos rfl, Int.pow_zero]
          rfl
        · rw [if_neg c, Int.zero_mul, ih (by omega)]
          rfl
    exact e n h
  | j + 1, n, h => by
    have h : ctU set i j + (if useP set i j then 1 else 0) < n := h
    show _ = (if useP set i j then peF AT set i x j * (x - (AT j : Int)) else peF AT set i x j)
    by_cases c : useP set i j
    · rw [if_pos c] at h ⊢
      have ef : pcF AT set i (j + 1) = fun k => (if k = 0 then 0 else pcF AT set i j (k - 1)) + (-(AT j : Int)) * pcF AT set i j k := by
        funext k
        show (if useP set i j then (if k = 0 then 0 else pcF AT set i j (k - 1)) - (AT j : Int) * pcF AT set i j k else pcF AT set i j k) = _
        rw [if_pos c, Int.neg_mul]
        omega
      obtain ⟨m, rfl⟩ : ∃ m, n = m + 1 := ⟨n - 1, by omega⟩
      rw [ef, sm_lin, sm_shift, sm_pc j m (by omega), sm_pc j (m + 1) (by omega), Int.mul_sub, Int.neg_mul, Int.mul_comm x, Int.mul_comm (AT j : Int)]
      omega
    · rw [if_neg c] at h ⊢
      have ef : pcF AT set i (j + 1) = pcF AT set i j := by
        funext k
        show (if useP set i j then _ else pcF AT set i j k) = _
        rw [if_neg c]
      rw [ef]
      exact sm_pc j n (by omega)
/-- a coefficient of the row of a set -/
def cfF (P : Nat) (AT WH : Nat → Nat) (N set k : Nat) : Nat → Int
  | 0 => 0
  | i + 1 => if set / 2 ^ i % 2 = 1 then cfF P AT WH N set k i + ((WH i : Int) * ivF P AT set i N) * pcF AT set i N k else cfF P AT WH N set k i
/-- what the row of a set comes to -/
def rcF (P : Nat) (AT WH : Nat → Nat) (N set : Nat) (x : Int) : Nat → Int
  | 0 => 0
  | i + 1 => if set / 2 ^ i % 2 = 1 then rcF P AT WH N set x i + ((WH i : Int) * ivF P AT set i N) * peF AT set i x N else rcF P AT WH N set x i
def popN (set : Nat) : Nat → Nat
  | 0 => 0
  | j + 1 => popN set j + set / 2 ^ j % 2
theorem ct_pop {set i : Nat} (hb : set / 2 ^ i % 2 = 1) : ∀ j, ctU set i j + (if i < j then 1 else 0) = popN set j
  | 0 => by rw [if_neg (by omega)]; rfl
  | j + 1 => by
    have ih := ct_pop hb j
    show ctU set i j + (if useP set i j then 1 else 0) + (if i < j + 1 then 1 else 0) = popN set j + set / 2 ^ j % 2
    by_cases c : j = i
    · subst c
      rw [if_neg (Nat.lt_irrefl j)] at ih
      rw [if_neg (fun q => q.1 rfl), if_pos (Nat.lt_succ_self j), hb]
      omega
    · by_cases c2 : set / 2 ^ j % 2 = 1
      · rw [if_pos (show useP set i j from ⟨c, c2⟩), c2]
        by_cases c3 : i < j
        · rw [if_pos c3] at ih; rw [if_pos (show i < j + 1 by omega)]; omega
        · rw [if_neg c3] at ih; rw [if_neg (show ¬ i < j + 1 by omega)]; omega
      · rw [if_neg (fun q => c2 q.2), show set / 2 ^ j % 2 = 0 from by omega]
        by_cases c3 : i < j
        · rw [if_pos c3] at ih; rw [if_pos (show i < j + 1 by omega)]; omega
        · rw [if_neg c3] at ih; rw [if_neg (show ¬ i < j + 1 by omega)]; omega
theorem sm_co {P : Nat} {AT WH : Nat → Nat} {N set n : Nat} {x : Int} (hn : popN set N ≤ n) : ∀ i, i ≤ N → sm (fun k => cfF P AT WH N set k i) x n = rcF P AT WH N set x i
  | 0, _ => by
    have e : ∀ n, sm (fun k => cfF P AT WH N set k 0) x n = 0 := by
      intro n
      induction n with
      | zero => rfl
      | succ n ih =>
        show sm (fun k => cfF P AT WH N set k 0) x n + 0 * x ^ n = 0
        rw [ih, Int.zero_mul]; rfl
    exact e n
  | i + 1, hi => by
    show sm (fun k => if set / 2 ^ i % 2 = 1 then cfF P AT WH N set k i + ((WH i : Int) * ivF P AT set i N) * pcF AT set i N k else cfF P AT WH N set k i) x n = (if set / 2 ^ i % 2 = 1 then rcF P AT WH N set x i + ((WH i : Int) * ivF P AT set i N) * peF AT set i x N else rcF P AT WH N set x i)
    by_cases c : set / 2 ^ i % 2 = 1
    · have hc := ct_pop c N
      rw [if_pos (show i < N from hi)] at hc
      simp only [if_pos c]
      rw [sm_lin, sm_co hn i (by omega), sm_pc N n (by omega)]
    · simp only [if_neg c]
      exact sm_co hn i (by omega)
/-! the class's shares, in the cells behind o -/
def okSh (P N : Nat) (AT WH : Nat → Nat) : Prop := N ≤ 8 ∧ isPr P ∧ ∀ i, i < N → AT i < P ∧ WH i ≤ 96 ∧ ∀ j, j < N → ¬ i = j → ¬ AT i = AT j
def cSh (o : Nat) (h : hp) (N : Nat) (AT WH : Nat → Nat) : Prop := gI h o 0 = nI N ∧ ∀ i, i < N → gI h (o + 1) i = nI (AT i) ∧ gI h (o + 3) i = nI (WH i)
def mSh (s : Nat) (h : hp) (N : Nat) (AT WH : Nat → Nat) : Prop := gI h 13 s = nI N ∧ ∀ i, i < N → gI h 14 (8 * s + i) = nI (AT i) ∧ gI h 15 (8 * s + i) = nI (WH i)
def pScr (o : Nat) (a _j : Nat) : Prop := a = o + 5
def rScr (o : Nat) (a _j : Nat) : Prop := a = o + 4 ∨ a = o + 5
theorem pScr_r {o : Nat} : ∀ a j, pScr o a j → rScr o a j := fun a j h => Or.inr h
theorem cSh_e {o : Nat} {h h1 : hp} {N : Nat} {AT WH : Nat → Nat} (e : eqE (rScr o) h h1) (c : cSh o h N AT WH) : cSh o h1 N AT WH := ⟨by rw [eqE_I e (by unfold rScr; omega)]; exact c.1, fun i hi => ⟨by rw [eqE_I e (by unfold rScr; omega)]; exact (c.2 i hi).1, by rw [eqE_I e (by unfold rScr; omega)]; exact (c.2 i hi).2⟩⟩
theorem cP_e {o P : Nat} {h h1 : hp} (e : eqE (rScr o) h h1) (c : gI h o 1 = nI P) : gI h1 o 1 = nI P := by rw [eqE_I e (by unfold rScr; omega)]; exact c
theorem c_isIn {set j : Nat} {Q : Int32 → Prop} (hs : set < 2147483648) (hj : j < 31) (hq1 : set / 2 ^ j % 2 = 1 → Q 1) (hq0 : ¬ set / 2 ^ j % 2 = 1 → Q 0) : w_X6_isIn (nI set) (nI j) Q := by
  unfold w_X6_isIn w_X6_isIn_0
  rw [bit_n hs hj]
  refine ⟨fun c => ?_, fun c => ?_⟩
  · have := (nI_eq (b := 0) (by omega) (by omega)).mp c
    exact hq0 (by omega)
  · refine hq1 ?_
    rcases Nat.lt_or_ge (set / 2 ^ j % 2) 1 with q | q
    · exact absurd (by rw [show set / 2 ^ j % 2 = 0 from by omega]; rfl) c
    · omega
theorem c_others {o : Nat} {h : hp} {N P set i : Nat} {AT WH : Nat → Nat} {Q : Int32 → hp → Prop} (a : cSh o h N AT WH) (aP : gI h o 1 = nI P) (ok : okSh P N AT WH) (hs : set < 2147483648) (hi : i < N) (hq : ∀ h1, eqE (pScr o) h h1 → (∀ k, k < 7 → gI h1 (o + 5) k = rsV P (pcF AT set i N k)) → Q (rsV P (peF AT set i (AT i) N)) h1) : w_X6_othersProduct o h (nI set) (nI i) Q := by
  obtain ⟨n8, hpr, okA⟩ := ok
  have okp := hpr.1
  have hP := okp.2
  have hP2 := okp.1
  have rs1 : rsV P 1 = 1 := t_eq.mpr (by rw [(rs_96 okp 1).1, Int.emod_eq_of_lt (by omega) (by omega)]; rfl)
  have rs0 : rsV P 0 = 0 := t_eq.mpr (by rw [(rs_96 okp 0).1, Int.zero_emod]; rfl)
  unfold w_X6_othersProduct w_X6_othersProduct_0
  refine c_fillW (by omega) ⟨in_n (k := 0) (by omega) (by omega), fun h2 e2 => ?_⟩
  have x2 : eqE (pScr o) h h2 := by rw [e2]; exact eqE_sI (eqE_fill (eqE_refl h) (fun j _ => rfl)) rfl
  have p2 : ∀ k, k < 7 → gI h2 (o + 5) k = rsV P (pcF AT set i 0 k) := fun k hk => by
    show _ = rsV P (if k = 0 then 1 else 0)
    rw [e2]
    by_cases c : k = 0
    · subst c
      rw [if_pos rfl, rs1]; exact gI_at _ _ _ _
    · rw [if_neg c, rs0, gI_k _ _ (show ¬ k = ix 0 from c), fillI_I, if_pos ⟨rfl, hk⟩]
  clear e2
  unfold w_X6_othersProduct_20
  intro X hX
  have key : ∀ (n j : Nat) (g : hp), n + j = N → eqE (pScr o) h g → (∀ k, k < 7 → gI g (o + 5) k = rsV P (pcF AT set i j k)) → X (rsV P (peF AT set i (AT i) j), nI j, g) := by
    intro n
    induction n with
    | zero =>
      intro j g hj xg pg
      have ej : j = N := by omega
      subst ej
      apply hX
      unfold w_X6_othersProduct_b20
      rw [(cSh_e (eqE_w pScr_r xg) a).1]
      exact ⟨fun _ => hq g xg pg, fun c => absurd (nI_le (Nat.le_refl _) (by omega)) c⟩
    | succ n ih =>
      intro j g hj xg pg
      have nxt := ih (j + 1)
      have hj8 : j < N := by omega
      have aj := okA j hj8
      have ai := okA i hi
      have ag := cSh_e (eqE_w pScr_r xg) a
      have skip : ¬ useP set i j → X (rsV P (peF AT set i (AT i) j), nI (j + 1), g) := fun c => by
        have e1 : peF AT set i (AT i) (j + 1) = peF AT set i (AT i) j := by
          show (if useP set i j then _ else peF AT set i (AT i) j) = _
          rw [if_neg c]
        have := nxt g (by omega) xg (fun k hk => by
          rw [pg k hk]
          show _ = rsV P (if useP set i j then _ else pcF AT set i j k)
          rw [if_neg c])
        rw [e1] at this
        exact this
      apply hX
      unfold w_X6_othersProduct_b20
      rw [ag.1]
      refine ⟨fun c => absurd c (nI_ge (by omega) (by omega)), fun _ => ⟨fun c u eu => ?_, fun c => c_isIn hs (by omega) (fun b => ⟨fun q => absurd q (by decide), fun _ u eu => ?_⟩) (fun b => ⟨fun _ u eu => ?_, fun q => absurd rfl q⟩)⟩⟩
      · rw [← nI_succ] at eu
        subst eu
        have c := (nI_eq (by omega) (by omega)).mp c
        exact skip (fun q => q.1 c)
      · have use : useP set i j := ⟨fun q => c (congrArg nI q), b⟩
        have eu : u = nI 6 := by rw [eu]; decide
        subst eu
        have ew : peF AT set i (AT i) (j + 1) = peF AT set i (AT i) j * ((AT i : Int) - (AT j : Int)) := by
          show (if useP set i j then _ else _) = _
          rw [if_pos use]
        rw [ew] at nxt
        unfold w_X6_othersProduct_53
        intro Y hY
        have inj : vp_in (nI j) 8 := in_n (by omega) (by omega)
        have eAj := n_toInt (n := AT j) (by omega)
        have eAi := n_toInt (n := AT i) (by omega)
        have key2 : ∀ (k : Nat) (g : hp), k ≤ 6 → eqE (pScr o) h g → (∀ l, l ≤ k → gI g (o + 5) l = rsV P (pcF AT set i j l)) → (∀ l, k < l → l < 7 → gI g (o + 5) l = rsV P (pcF AT set i (j + 1) l)) → Y (nI k, g) := by
          intro k
          induction k with
          | zero =>
            intro g _ xg lo hi'
            have ag := cSh_e (eqE_w pScr_r xg) a
            have aPg := cP_e (eqE_w pScr_r xg) aP
            obtain ⟨q1, q2, q3, q4⟩ := rs_96 okp (pcF AT set i j 0)
            obtain ⟨w1, w2, w3, w4⟩ := rs_96 okp (peF AT set i (AT i) j)
            have en : (-nI (AT j)).toInt = -(AT j : Int) := by rw [Int32.toInt_neg, eAj, bm32 (by omega) (by omega)]
            obtain ⟨m1, m2, m3⟩ := t_mm (y := -nI (AT j)) (z := rsV P (pcF AT set i j 0)) ⟨by omega, by omega⟩ ⟨q2, q3⟩
            apply hY
            unfold w_X6_othersProduct_b53
            rw [ix_n (n := j) (by omega), (ag.2 j hj8).1, show gI g (o + 5) (ix 0) = rsV P (pcF AT set i j 0) from lo 0 (Nat.le_refl _)]
            refine ⟨fun _ => ⟨inj, in_n (k := 0) (by omega) (by omega), c_restOf aPg okp (by rw [tL_int, m1]; omega) ⟨in_n (k := 0) (by omega) (by omega), fun h14 e14 => ⟨in_n (by omega) (by omega), inj, ?_⟩⟩⟩, fun c => absurd (show (nI 0 : Int32) ≤ 0 by decide) c⟩
            have e14 : h14 = sI g (o + 5) 0 (rsV P ((-nI (AT j) * rsV P (pcF AT set i j 0)).toInt64).toInt) := e14
            rw [tL_int, m1, en] at e14
            have x14 : eqE (pScr o) h h14 := by rw [e14]; exact eqE_sI xg rfl
            have a14 := cSh_e (eqE_w pScr_r x14) a
            have aP14 := cP_e (eqE_w pScr_r x14) aP
            rw [ix_n (n := i) (by omega), (a14.2 i hi).1, (a14.2 j hj8).1]
            have ed : (nI (AT i) - nI (AT j)).toInt = (AT i : Int) - AT j := by rw [t_sub (by rw [eAi, eAj]; omega) (by rw [eAi, eAj]; omega), eAi, eAj]
            have mm := mul_in (a := (AT i : Int) - AT j) (b := (rsV P (peF AT set i (AT i) j)).toInt) (M := 96) (by omega) (by omega) w2 w3
            have em : (rsV P (peF AT set i (AT i) j) * (nI (AT i) - nI (AT j))).toInt = (rsV P (peF AT set i (AT i) j)).toInt * ((AT i : Int) - AT j) := by
              rw [t_mul (by rw [ed, Int.mul_comm]; omega) (by rw [ed, Int.mul_comm]; omega), ed]
            refine c_restOf aP14 okp (by rw [tL_int, em, Int.mul_comm]; omega) (fun u eu => ?_)
            rw [tL_int, em, rs_cg okp (cg_mul w4 (cg_r _))]
            have eu : u = nI j + 1 := eu
            rw [← nI_succ] at eu
            subst eu
            refine nxt h14 (by omega) x14 (fun l hl => ?_)
            by_cases c0 : l = 0
            · subst c0
              rw [e14, gI_at]
              show _ = rsV P (if useP set i j then (if 0 = 0 then 0 else _) - (AT j : Int) * pcF AT set i j 0 else _)
              rw [if_pos use, if_pos rfl]
              refine rs_cg okp ?_
              have := cg_mul (cg_r (-(AT j : Int))) q4
              rw [show (0 : Int) - (AT j : Int) * pcF AT set i j 0 = -(AT j : Int) * pcF AT set i j 0 from by rw [Int.neg_mul]; omega]
              exact this
            · rw [e14, gI_k _ _ c0]
              exact hi' l (by omega) hl
          | succ k ih2 =>
            intro g hk xg lo hi'
            have ag := cSh_e (eqE_w pScr_r xg) a
            have aPg := cP_e (eqE_w pScr_r xg) aP
            obtain ⟨q1, q2, q3, q4⟩ := rs_96 okp (pcF AT set i j (k + 1))
            obtain ⟨v1, v2, v3, v4⟩ := rs_96 okp (pcF AT set i j k)
            have em := t_ms (x := rsV P (pcF AT set i j k)) (y := nI (AT j)) (z := rsV P (pcF AT set i j (k + 1))) ⟨v2, v3⟩ ⟨by omega, by omega⟩ ⟨q2, q3⟩
            have mm := (t_mm (y := nI (AT j)) (z := rsV P (pcF AT set i j (k + 1))) ⟨by omega, by omega⟩ ⟨q2, q3⟩).2
            rw [eAj] at em mm
            apply hY
            unfold w_X6_othersProduct_b53
            show (nI (k + 1) ≤ 0 → _) ∧ (¬ nI (k + 1) ≤ 0 → vp_in (nI (k + 1) - 1) 7 ∧ _)
            rw [nI_pred, ix_n (n := j) (by omega), ix_n (n := k) (by omega), ix_n (n := k + 1) (by omega), (ag.2 j hj8).1, lo k (by omega), lo (k + 1) (Nat.le_refl _)]
            refine ⟨fun c => absurd c (nI_nle (by omega) (by omega)), fun _ => ⟨in_n (by omega) (by omega), inj, in_n (by omega) (by omega), c_restOf aPg okp (by rw [tL_int, em]; omega) ⟨in_n (by omega) (by omega), fun h20 e20 u eu => ?_⟩⟩⟩
            rw [tL_int, em] at e20
            have eu : u = nI k := by rw [eu, m1]; exact nI_pred k
            subst eu
            refine ih2 h20 (by omega) ?_ (fun l hl => ?_) (fun l h1 h2 => ?_)
            · rw [e20]; exact eqE_sI xg rfl
            · rw [e20, gI_k _ _ (by omega)]; exact lo l (by omega)
            · by_cases c : l = k + 1
              · subst c
                rw [e20, gI_at]
                show _ = rsV P (if useP set i j then (if k + 1 = 0 then 0 else pcF AT set i j (k + 1 - 1)) - (AT j : Int) * pcF AT set i j (k + 1) else _)
                rw [if_pos use, if_neg (by omega), Nat.add_sub_cancel]
                exact rs_cg okp (cg_sub v4 (cg_mul (cg_r _) q4))
              · rw [e20, gI_k _ _ c]; exact hi' l (by omega) h2
        exact key2 6 g (Nat.le_refl _) xg (fun l hl => pg l (by omega)) (fun l h1 h2 => by omega)
      · rw [← nI_succ] at eu
        subst eu
        exact skip (fun q => b q.2)
  have e1 : rsV P (peF AT set i (AT i) 0) = 1 := rs1
  have := key N 0 h2 (by omega) x2 p2
  rw [e1] at this
  exact this
/-- the inverse of the product is the product of the inverses -/
theorem pe_iv {P N set i : Nat} {AT WH : Nat → Nat} (ok : okSh P N AT WH) (hi : i < N) : ∀ j, j ≤ N → peF AT set i (AT i) j * ivF P AT set i j % (P : Int) = 1
  | 0, _ => by
    have h2 := ok.2.1.1.1
    show (1 : Int) * 1 % (P : Int) = 1
    rw [Int.mul_one, Int.emod_eq_of_lt (by omega) (by omega)]
  | j + 1, hj => by
    have ih := pe_iv (set := set) ok hi j (by omega)
    have h2 := ok.2.1.1.1
    show (if useP set i j then peF AT set i (AT i) j * ((AT i : Int) - (AT j : Int)) else peF AT set i (AT i) j) * (if useP set i j then ivF P AT set i j * (ivN P ((AT i : Int) - (AT j : Int)) : Int) else ivF P AT set i j) % (P : Int) = 1
    by_cases c : useP set i j
    · rw [if_pos c, if_pos c]
      have ai := ok.2.2 i hi
      have aj := ok.2.2 j (by omega)
      have ne : ¬ ((AT i : Int) - (AT j : Int)) % (P : Int) = 0 := fun q => by
        have nq := ai.2.2 j (by omega) (fun e => c.1 e.symm)
        have hd := Int.emod_add_mul_ediv ((AT i : Int) - (AT j : Int)) (P : Int)
        rw [q, Int.zero_add] at hd
        have b1 : ((AT i : Int) - (AT j : Int)) / (P : Int) = 0 := by
          rcases Int.lt_trichotomy (((AT i : Int) - (AT j : Int)) / (P : Int)) 0 with z | z | z
          · have := Int.mul_le_mul_of_nonneg_left (show ((AT i : Int) - (AT j : Int)) / (P : Int) ≤ -1 by omega) (show (0 : Int) ≤ P by omega)
            omega
          · exact z
          · have := Int.mul_le_mul_of_nonneg_left (show (1 : Int) ≤ ((AT i : Int) - (AT j : Int)) / (P : Int) by omega) (show (0 : Int) ≤ P by omega)
            omega
        rw [b1, Int.mul_zero] at hd
        exact nq (by omega)
      have hv := (ivN_at ok.2.1 ne).2.2
      have e : peF AT set i (AT i) j * ((AT i : Int) - (AT j : Int)) * (ivF P AT set i j * (ivN P ((AT i : Int) - (AT j : Int)) : Int)) = (peF AT set i (AT i) j * ivF P AT set i j) * (((AT i : Int) - (AT j : Int)) * (ivN P ((AT i : Int) - (AT j : Int)) : Int)) := by
        simp only [Int.mul_assoc, Int.mul_left_comm]
      rw [e]
      have c1 : cg P (peF AT set i (AT i) j * ivF P AT set i j) 1 := by unfold cg; rw [ih, Int.emod_eq_of_lt (by omega) (by omega)]
      have c2 : cg P (((AT i : Int) - (AT j : Int)) * (ivN P ((AT i : Int) - (AT j : Int)) : Int)) 1 := by unfold cg; rw [hv, Int.emod_eq_of_lt (by omega) (by omega)]
      have := cg_mul c1 c2
      unfold cg at this
      rw [this, Int.mul_one, Int.emod_eq_of_lt (by omega) (by omega)]
    · rw [if_neg c, if_neg c]
      exact ih
theorem iv_cg {P N set i : Nat} {AT WH : Nat → Nat} (ok : okSh P N AT WH) (hi : i < N) : cg P (ivN P (peF AT set i (AT i) N) : Int) (ivF P AT set i N) := by
  have h2 := ok.2.1.1.1
  have h1 := pe_iv (set := set) ok hi N (Nat.le_refl _)
  have one : (1 : Int) % (P : Int) = 1 := Int.emod_eq_of_lt (by omega) (by omega)
  have ne : ¬ peF AT set i (AT i) N % (P : Int) = 0 := fun q => by
    have c : cg P (peF AT set i (AT i) N * ivF P AT set i N) (0 * ivF P AT set i N) := cg_mul (by unfold cg; rw [q, Int.zero_emod]) (cg_r _)
    unfold cg at c
    rw [h1, Int.zero_mul, Int.zero_emod] at c
    omega
  have h3 := (ivN_at ok.2.1 ne).2.2
  -- v = v * (w * u) = (w * v) * u = u
  have c1 : cg P ((ivN P (peF AT set i (AT i) N) : Int) * 1) ((ivN P (peF AT set i (AT i) N) : Int) * (peF AT set i (AT i) N * ivF P AT set i N)) := cg_mul (cg_r _) (by unfold cg; rw [h1, one])
  have c2 : cg P ((peF AT set i (AT i) N * (ivN P (peF AT set i (AT i) N) : Int)) * ivF P AT set i N) (1 * ivF P AT set i N) := cg_mul (by unfold cg; rw [h3, one]) (cg_r _)
  have e : (ivN P (peF AT set i (AT i) N) : Int) * (peF AT set i (AT i) N * ivF P AT set i N) = (peF AT set i (AT i) N * (ivN P (peF AT set i (AT i) N) : Int)) * ivF P AT set i N := by
    rw [← Int.mul_assoc, Int.mul_comm (ivN P (peF AT set i (AT i) N) : Int)]
  rw [Int.mul_one, e] at c1
  rw [Int.one_mul] at c2
  exact cg_t c1 c2
theorem c_findRow {o : Nat} {h : hp} {N P set : Nat} {AT WH : Nat → Nat} {Q : hp → Prop} (a : cSh o h N AT WH) (aP : gI h o 1 = nI P) (ok : okSh P N AT WH) (hs : set < 2147483648) (hq : ∀ h1, eqE (rScr o) h h1 → (∀ k, k < 6 → gI h1 (o + 4) k = rsV P (cfF P AT WH N set k N)) → Q h1) : w_X6_findRow o h (nI set) Q := by
  have n8 := ok.1
  have okp := ok.2.1.1
  have hP := okp.2
  have hP2 := okp.1
  have rs0 : rsV P 0 = 0 := t_eq.mpr (by rw [(rs_96 okp 0).1, Int.zero_emod]; rfl)
  unfold w_X6_findRow w_X6_findRow_0
  refine c_fillW (by omega) ?_
  have x1 : eqE (rScr o) h (fillI (o + 4) 0 h 6) := eqE_fill (eqE_refl h) (fun j _ => Or.inl rfl)
  have r1 : ∀ k, k < 6 → gI (fillI (o + 4) 0 h 6) (o + 4) k = rsV P (cfF P AT WH N set k 0) := fun k hk => by
    rw [fillI_I, if_pos ⟨rfl, hk⟩]
    exact rs0.symm
  generalize fillI (o + 4) 0 h 6 = h1 at x1 r1
  unfold w_X6_findRow_10
  intro X hX
  have key : ∀ (n i : Nat) (g : hp), n + i = N → eqE (rScr o) h g → (∀ k, k < 6 → gI g (o + 4) k = rsV P (cfF P AT WH N set k i)) → X (nI i, g) := by
    intro n
    induction n with
    | zero =>
      intro i g hi xg rg
      have ei : i = N := by omega
      subst ei
      apply hX
      unfold w_X6_findRow_b10
      rw [(cSh_e xg a).1]
      exact ⟨fun _ => hq g xg rg, fun c => absurd (nI_le (Nat.le_refl _) (by omega)) c⟩
    | succ n ih =>
      intro i g hi xg rg
      have hi8 : i < N := by omega
      have nxt := ih (i + 1)
      have ag := cSh_e xg a
      have ai := ok.2.2 i hi8
      apply hX
      unfold w_X6_findRow_b10
      rw [ag.1]
      refine ⟨fun c => absurd c (nI_ge (by omega) (by omega)), fun _ => c_isIn hs (by omega) (fun b => ⟨fun q => absurd q (by decide), fun _ => ⟨in_n (by omega) (by omega), ?_⟩⟩) (fun b => ⟨fun _ u eu => ?_, fun q => absurd rfl q⟩)⟩
      · refine c_others ag (cP_e xg aP) ok hs hi8 (fun h7 x7 p7 => ?_)
        have x07 := eqE_trans xg (eqE_w pScr_r x7)
        have a7 := cSh_e x07 a
        have aP7 := cP_e x07 aP
        refine c_turned aP7 okp rfl ?_
        have hv := ivS_le (P := P) (z := peF AT set i (AT i) N) (P - 1) (Nat.le_refl _)
        have hv : ivN P (peF AT set i (AT i) N) ≤ P := hv
        have hv96 : ivN P (peF AT set i (AT i) N) ≤ 96 := by
          have := ivN_at ok.2.1 (z := peF AT set i (AT i) N) (fun q => by
            have h1 := pe_iv (set := set) ok hi8 N (Nat.le_refl _)
            have c : cg P (peF AT set i (AT i) N * ivF P AT set i N) (0 * ivF P AT set i N) := cg_mul (by unfold cg; rw [q, Int.zero_emod]) (cg_r _)
            unfold cg at c
            rw [h1, Int.zero_mul, Int.zero_emod] at c
            omega)
          omega
        have eW := n_toInt (n := WH i) (by omega)
        have eV := n_toInt (n := ivN P (peF AT set i (AT i) N)) (by omega)
        obtain ⟨m1', m2', m3'⟩ := t_mm (y := nI (WH i)) (z := nI (ivN P (peF AT set i (AT i) N))) ⟨by rw [eW]; omega, by rw [eW]; omega⟩ ⟨by rw [eV]; omega, by rw [eV]; omega⟩
        show w_X6_restOf o h7 (gI g (o + 3) (ix (nI i)) * nI (ivN P (peF AT set i (AT i) N))).toInt64 _
        rw [ix_n (by omega), (ag.2 i hi8).2]
        refine c_restOf aP7 okp (by rw [tL_int, m1']; omega) ?_
        have cf : rsV P (nI (WH i) * nI (ivN P (peF AT set i (AT i) N))).toInt64.toInt = rsV P ((WH i : Int) * ivF P AT set i N) := by
          rw [tL_int, m1', eW, eV]
          exact rs_cg okp (cg_mul (cg_r _) (iv_cg ok hi8))
        rw [cf]
        obtain ⟨f1, f2, f3, f4⟩ := rs_96 okp ((WH i : Int) * ivF P AT set i N)
        generalize rsV P ((WH i : Int) * ivF P AT set i N) = fac at f1 f2 f3 f4
        unfold w_X6_findRow_52
        intro Y hY
        have key2 : ∀ (m k : Nat) (g : hp), m + k = 6 → eqE (rScr o) h g → (∀ l, l < 7 → gI g (o + 5) l = rsV P (pcF AT set i N l)) → (∀ l, l < 6 → gI g (o + 4) l = rsV P (if l < k then cfF P AT WH N set l (i + 1) else cfF P AT WH N set l i)) → Y (nI k, g) := by
          intro m
          induction m with
          | zero =>
            intro k g hk xg pg rg
            have ek : k = 6 := by omega
            subst ek
            apply hY
            refine ⟨fun _ u eu => ?_, fun c => absurd (show (6 : Int32) ≤ nI 6 by decide) c⟩
            have eu : u = nI i + 1 := eu
            rw [← nI_succ] at eu
            subst eu
            exact nxt g (by omega) xg (fun l hl => by rw [rg l hl, if_pos hl])
          | succ m ih2 =>
            intro k g hk xg pg rg
            obtain ⟨q1, q2, q3, q4⟩ := rs_96 okp (pcF AT set i N k)
            obtain ⟨v1, v2, v3, v4⟩ := rs_96 okp (cfF P AT WH N set k i)
            have em := t_ma (x := rsV P (cfF P AT WH N set k i)) (y := fac) (z := rsV P (pcF AT set i N k)) ⟨v2, v3⟩ ⟨by omega, by omega⟩ ⟨q2, q3⟩
            have mm := (t_mm (y := fac) (z := rsV P (pcF AT set i N k)) ⟨by omega, by omega⟩ ⟨q2, q3⟩).2
            apply hY
            unfold w_X6_findRow_b52
            rw [ix_n (n := k) (by omega), pg k (by omega), rg k (by omega), if_neg (Nat.lt_irrefl k)]
            refine ⟨fun c => absurd c (nI_ge (b := 6) (by omega) (by omega)), fun _ => ⟨in_n (by omega) (by omega), in_n (by omega) (by omega), c_restOf (cP_e xg aP) okp (by rw [tL_int, em]; omega) ⟨in_n (by omega) (by omega), fun h17 e17 u eu => ?_⟩⟩⟩
            rw [tL_int, em] at e17
            rw [← nI_succ] at eu
            subst eu
            refine ih2 (k + 1) h17 (by omega) ?_ (fun l hl => ?_) (fun l hl => ?_)
            · rw [e17]; exact eqE_sI xg (Or.inl rfl)
            · rw [e17, gI_o _ _ (by omega)]; exact pg l hl
            · by_cases c : l = k
              · subst c
                rw [e17, gI_at, if_pos (Nat.lt_succ_self l)]
                show _ = rsV P (if set / 2 ^ i % 2 = 1 then cfF P AT WH N set l i + ((WH i : Int) * ivF P AT set i N) * pcF AT set i N l else _)
                rw [if_pos b]
                exact rs_cg okp (cg_add v4 (cg_mul f4 q4))
              · rw [e17, gI_k _ _ c, rg l hl]
                by_cases c2 : l < k
                · rw [if_pos c2, if_pos (show l < k + 1 by omega)]
                · rw [if_neg c2, if_neg (show ¬ l < k + 1 by omega)]
        exact key2 6 0 h7 (by omega) x07 p7 (fun l hl => by
          rw [if_neg (by omega), eqE_I x7 (by unfold pScr; omega)]
          exact rg l hl)
      · rw [← nI_succ] at eu
        subst eu
        refine nxt g (by omega) xg (fun k hk => ?_)
        rw [rg k hk]
        show _ = rsV P (if set / 2 ^ i % 2 = 1 then _ else cfF P AT WH N set k i)
        rw [if_neg b]
  exact key N 0 h1 (by omega) x1 r1
theorem c_comesAt {o : Nat} {h : hp} {P at' : Nat} {z : Nat → Int} {Q : Int32 → Prop} (aP : gI h o 1 = nI P) (ok : okP P) (hat : at' ≤ 96) (row : ∀ k, k < 6 → gI h (o + 4) k = rsV P (z k)) (hq : Q (rsV P (sm z at' 6))) : w_X6_comesTo o h (nI at') Q := by
  have hP := ok.2
  have eA := n_toInt (n := at') (by omega)
  have rs0 : rsV P 0 = 0 := t_eq.mpr (by rw [(rs_96 ok 0).1, Int.zero_emod]; rfl)
  unfold w_X6_comesTo w_X6_comesTo_0
  intro y ey
  have ey : y = nI 6 - 1 := ey
  subst ey
  unfold w_X6_comesTo_10
  intro X hX
  have key : ∀ (k : Nat) (acc : Int), k ≤ 6 → Q (rsV P (hrF z at' k acc)) → X (rsV P acc, nI k - 1) := by
    intro k
    induction k with
    | zero =>
      intro acc _ hq
      apply hX
      exact ⟨fun _ => hq, fun c => absurd (show (nI 0 - 1) < 0 by decide) c⟩
    | succ k ih =>
      intro acc hk hq
      rw [nI_pred]
      obtain ⟨q1, q2, q3, q4⟩ := rs_96 ok acc
      obtain ⟨v1, v2, v3, v4⟩ := rs_96 ok (z k)
      have em : (rsV P acc * nI at' + rsV P (z k)).toInt = (rsV P acc).toInt * at' + (rsV P (z k)).toInt := by
        obtain ⟨e, b1, b2⟩ := t_mm (y := rsV P acc) (z := nI at') ⟨by omega, by omega⟩ ⟨by omega, by omega⟩
        rw [t_add (by rw [e]; omega) (by rw [e]; omega), e, eA]
      have mm := (t_mm (y := rsV P acc) (z := nI at') ⟨by omega, by omega⟩ ⟨by omega, by omega⟩).2
      rw [eA] at mm
      apply hX
      unfold w_X6_comesTo_b10
      rw [ix_n (n := k) (by omega), row k (by omega)]
      refine ⟨fun c => absurd c (nI_pos (by omega)), fun _ => ⟨in_n (by omega) (by omega), c_restOf aP ok (by rw [tL_int, em]; omega) (fun u eu => ?_)⟩⟩
      rw [m1] at eu
      subst eu
      rw [tL_int, em, rs_cg ok (cg_add (cg_mul q4 (cg_r _)) v4)]
      exact ih _ (by omega) hq
  have := key 6 0 (Nat.le_refl _) (by rw [hrF_sm, Int.zero_mul, Int.zero_add]; exact hq)
  rw [rs0] at this
  exact this
/-! how many are in a set -/
def bcF (x : Int32) : Int32 :=
  let a := x - ((jushr x 1) &&& 1431655765)
  let b := (a &&& 858993459) + ((jushr a 2) &&& 858993459)
  let c := (b + (jushr b 4)) &&& 252645135
  let d := c + (jushr c 8)
  let e := d + (jushr d 16)
  e &&& 63
theorem bc_256 : ∀ a, a < 256 → bcF (nI a) = nI (popN a 8) := by decide +kernel
theorem c_bitCount {a : Nat} {Q : Int32 → Prop} (ha : a < 256) (hq : Q (nI (popN a 8))) : w_J6_bitCount_0f7a4 (nI a) Q := by
  unfold w_J6_bitCount_0f7a4 w_J6_bitCount_0f7a4_0
  intro y1 e1 y2 e2 y3 e3 y4 e4 y5 e5
  have e : y5 &&& 63 = bcF (nI a) := by rw [e5, e4, e3, e2, e1]; rfl
  rw [e, bc_256 a ha]
  exact hq
theorem pop_le (set : Nat) : ∀ j, popN set j ≤ j
  | 0 => Nat.le_refl 0
  | j + 1 => by
    have := pop_le set j
    show popN set j + set / 2 ^ j % 2 ≤ j + 1
    omega
theorem pop_mono (set : Nat) {i j : Nat} (h : i ≤ j) : popN set i ≤ popN set j := by
  induction j with
  | zero => rw [show i = 0 from by omega]; exact Nat.le_refl _
  | succ j ih =>
    rcases Nat.lt_or_ge j i with q | q
    · rw [show i = j + 1 from by omega]; exact Nat.le_refl _
    · have := ih q
      show popN set i ≤ popN set j + set / 2 ^ j % 2
      omega
theorem pop_pos : ∀ a, a < 256 → 1 ≤ a → 1 ≤ popN a 8 := by decide +kernel
theorem m_bits {set : Nat} {Q : Int32 → Prop} (hs : set < 2147483648) (hq : Q (nI (popN set 8))) : w_X12_bits (nI set) Q := by
  unfold w_X12_bits w_X12_bits_0 w_X12_bits_4
  intro X hX
  have key : ∀ n k : Nat, n + k = 8 → X (nI (popN set k), nI k) := by
    intro n
    induction n with
    | zero =>
      intro k hk
      have ek : k = 8 := by omega
      subst ek
      apply hX
      exact ⟨fun _ => hq, fun c => absurd (show (8 : Int32) ≤ nI 8 by decide) c⟩
    | succ n ih =>
      intro k hk
      have nxt := ih (k + 1) (by omega)
      apply hX
      refine ⟨fun c => absurd c (nI_ge (b := 8) (by omega) (by omega)), fun _ y ey u eu => ?_⟩
      have ey : y = nI (popN set k) + (jshr (nI set) (nI k) &&& 1) := ey
      have eu : u = nI k + 1 := eu
      rw [bit_n hs (by omega), nI_add] at ey
      rw [← nI_succ] at eu
      subst ey eu
      exact nxt
  exact key 8 0 (by omega)
abbrev isS (N : Nat) (x : Int32) : Prop := 0 < x.toInt ∧ x.toInt < ((2 ^ N : Nat) : Int) ∧ popN x.toInt.toNat 8 ≤ 6
theorem pow_8 {N : Nat} (h : N ≤ 8) : 2 ^ N ≤ 256 := Nat.pow_le_pow_right (n := 2) (by omega) h
theorem c_isSet {o N : Nat} {h : hp} {x : Int32} {Q : Int32 → Prop} (a : gI h o 0 = nI N) (hN : N ≤ 8) (hq1 : isS N x → Q 1) (hq0 : ¬ isS N x → Q 0) : w_X6_isSet o h x Q := by
  have h8 := pow_8 hN
  have z0 : (0 : Int32).toInt = 0 := rfl
  have eM := n_toInt (n := 2 ^ N) (by omega)
  unfold w_X6_isSet w_X6_isSet_0
  rw [a, shl1 N (by omega)]
  refine ⟨fun c => hq0 (fun q => ?_), fun c => ⟨fun c2 => hq0 (fun q => ?_), fun c2 => ?_⟩⟩
  · rw [t_le, z0] at c; have := q.1; omega
  · rw [t_le, eM] at c2; have := q.2.1; omega
  · rw [t_le, z0] at c
    rw [t_le, eM] at c2
    obtain ⟨ex, hx⟩ := n_of (x := x) (by omega)
    have hs : x.toInt.toNat < 256 := by omega
    have c3 : 0 < x.toInt ∧ x.toInt < ((2 ^ N : Nat) : Int) := ⟨by omega, by omega⟩
    unfold isS at hq1 hq0
    generalize x.toInt.toNat = set at ex hx hs hq1 hq0
    rw [ex]
    have hp8 := pop_le set 8
    refine c_bitCount hs ⟨fun c4 => hq0 (fun q => ?_), fun c4 => hq1 ⟨c3.1, c3.2, ?_⟩⟩
    · have := (nI_ltI (a := 6) (by omega) (by omega)).mp c4
      have := q.2.2
      omega
    · have : ¬ 6 < popN set 8 := fun q => c4 (nI_lt (a := 6) q (by omega))
      omega
theorem m_isSet {s N : Nat} {h : hp} {x : Int32} {Q : Int32 → Prop} (t : mAt h s) (a : gI h 13 s = nI N) (hN : N ≤ 8) (hq1 : isS N x → Q 1) (hq0 : ¬ isS N x → Q 0) : w_X12_isSet h x Q := by
  have h8 := pow_8 hN
  have hs2 := t.2
  have o1 : (1 : Int64).toInt = 1 := rfl
  have i1 : (1 : Int32).toInt = 1 := rfl
  have eM := n_toInt (n := 2 ^ N) (by omega)
  have hpos : 0 < 2 ^ N := Nat.pow_pos (by decide)
  have eM1 : (nI (2 ^ N) - 1).toInt = ((2 ^ N : Nat) : Int) - 1 := by rw [t_sub (by rw [eM, i1]; omega) (by rw [eM, i1]; omega), eM, i1]
  unfold w_X12_isSet w_X12_isSet_0
  rw [t.1, ix_n (by omega), a, shl1 N (by omega)]
  refine ⟨in_n hs2 (by omega), m_in (fun c => ⟨fun q => absurd q (by decide), fun _ => ?_⟩) (fun c => ⟨fun _ => hq0 (fun q => c ?_), fun q => absurd rfl q⟩)⟩
  · rw [tL_int, tL_int, eM1, o1] at c
    obtain ⟨ex, hx⟩ := n_of (x := x) (by omega)
    have hs : x.toInt.toNat < 256 := by omega
    have c3 : 0 < x.toInt ∧ x.toInt < ((2 ^ N : Nat) : Int) := ⟨by omega, by omega⟩
    unfold isS at hq1 hq0
    generalize x.toInt.toNat = set at ex hx hs hq1 hq0
    rw [ex]
    have hp8 := pop_le set 8
    refine m_bits (by omega) ⟨fun c4 => hq0 (fun q => ?_), fun c4 => hq1 ⟨c3.1, c3.2, ?_⟩⟩
    · have := (nI_leI (a := 7) (by omega) (by omega)).mp c4
      have := q.2.2
      omega
    · have : ¬ 7 ≤ popN set 8 := fun q => c4 (nI_le (a := 7) q (by omega))
      omega
  · rw [tL_int, tL_int, eM1, o1]
    have := q.1
    have := q.2.1
    omega
theorem isS_n {N : Nat} (hN : N ≤ 8) {x : Int32} (h : isS N x) : ∃ set, x = nI set ∧ x.toInt.toNat = set ∧ set < 256 ∧ 1 ≤ set ∧ set < 2 ^ N ∧ popN set 8 ≤ 6 := by
  have h8 := pow_8 hN
  obtain ⟨h1, h2, h3⟩ := h
  exact ⟨x.toInt.toNat, (n_of (x := x) (by omega)).1, rfl, by omega, by omega, by omega, h3⟩
/-! secret, shared, shareRow: the class -/
theorem rScr_c {o : Nat} (ho : isO o) : ∀ a j, rScr (o + 9) a j → cScr a j := fun a j h => by
  unfold rScr at h
  unfold cScr
  rcases ho with q | q
  · subst q; omega
  · subst q; omega
theorem sm_0 {g : Nat → Int} : ∀ n, sm g 0 (n + 1) = g 0
  | 0 => by
    show 0 + g 0 * 0 ^ 0 = g 0
    rw [Int.pow_zero, Int.mul_one, Int.zero_add]
  | n + 1 => by
    show sm g 0 (n + 1) + g (n + 1) * 0 ^ (n + 1) = g 0
    rw [sm_0 n, Int.pow_succ, Int.mul_zero, Int.mul_zero, Int.add_zero]
abbrev shO (o : Nat) (h : hp) (P N : Nat) (AT WH : Nat → Nat) : Prop := cSh (o + 9) h N AT WH ∧ cP o h P
def secV (P N : Nat) (AT WH : Nat → Nat) (set at' : Nat) : Int32 := rsV P (rcF P AT WH N set at' N)
theorem sm_rc {P N set at' : Nat} {AT WH : Nat → Nat} (hN : N ≤ 8) (h6 : popN set 8 ≤ 6) : sm (fun k => cfF P AT WH N set k N) at' 6 = rcF P AT WH N set at' N := sm_co (Nat.le_trans (pop_mono set hN) h6) N (Nat.le_refl _)
theorem c_shareRow {h : hp} {o P N : Nat} {AT WH : Nat → Nat} {x y : Int32} {Q : Int32 → hp → Prop} (t : cAt h o) (ho : isO o) (a : shO o h P N AT WH) (ok : okSh P N AT WH) (hq1 : ∀ h1, isS N x ∧ 0 ≤ y.toInt ∧ y.toInt < (popN x.toInt.toNat 8 : Int) → eqE cScr h h1 → Q (rsV P (cfF P AT WH N x.toInt.toNat y.toInt.toNat N)) h1) (hq0 : ¬ (isS N x ∧ 0 ≤ y.toInt ∧ y.toInt < (popN x.toInt.toNat 8 : Int)) → Q (-1) h) : w_X11_shareRow h x y Q := by
  have z0 : (0 : Int32).toInt = 0 := rfl
  unfold w_X11_shareRow w_X11_shareRow_0
  rw [t.1]
  refine ⟨t.2, c_isSet a.1.1 ok.1 (fun z => ⟨fun c => absurd c (by decide), fun _ => ⟨fun c => hq0 (fun q => ?_), fun c => ?_⟩⟩) (fun z => ⟨fun _ => hq0 (fun q => z q.1), fun c => absurd rfl c⟩)⟩
  · rw [t_lt, z0] at c; have := q.2.1; omega
  · rw [t_lt, z0] at c
    obtain ⟨set, es, es2, s256, s1, sM, s6⟩ := isS_n ok.1 z
    rw [es2] at hq1 hq0
    have eP' := n_toInt (n := popN set 8) (by omega)
    have es3 := es
    subst es3
    refine c_bitCount s256 ⟨fun c2 => ⟨t.2, ?_⟩, fun c2 => hq0 (fun q => c2 ?_)⟩
    · rw [t_lt, eP'] at c2
      refine c_findRow a.1 a.2 ok (by omega) (fun h10 x10 r10 => ?_)
      have xc := eqE_w (rScr_c ho) x10
      have eg : gR h10 0 = o := by rw [x10.2]; exact t.1
      have hq := hq1 h10 ⟨z, by omega, c2⟩ xc
      rw [eg]
      obtain ⟨ey, hy⟩ := n_of (x := y) (by omega)
      have hy6 : y.toInt.toNat < 6 := by omega
      generalize y.toInt.toNat = k at ey hy hy6 hq
      subst ey
      rw [ix_n hy, r10 k hy6]
      exact ⟨t.2, in_n hy6 hy, hq⟩
    · rw [t_lt, eP']; exact q.2.2
theorem c_secret {h : hp} {o P N : Nat} {AT WH : Nat → Nat} {x : Int32} {Q : Int32 → hp → Prop} (t : cAt h o) (ho : isO o) (a : shO o h P N AT WH) (ok : okSh P N AT WH) (hq1 : ∀ h1, isS N x → eqE cScr h h1 → Q (secV P N AT WH x.toInt.toNat 0) h1) (hq0 : ¬ isS N x → Q (-1) h) : w_X11_secret h x Q := by
  unfold w_X11_secret w_X11_secret_0
  refine c_shareRow t ho a ok (fun h1 c x1 => ?_) (fun c => hq0 (fun q => c ⟨q, by decide, ?_⟩))
  · have := hq1 h1 c.1 x1
    unfold secV at this
    rw [← sm_rc (P := P) (AT := AT) (WH := WH) (at' := 0) ok.1 c.1.2.2, show ((0 : Nat) : Int) = 0 from rfl, sm_0] at this
    exact this
  · obtain ⟨set, es, es2, s256, s1, sM, s6⟩ := isS_n ok.1 q
    have := pop_pos set s256 s1
    rw [es2]
    show (0 : Int) < _
    omega
theorem c_shared {h : hp} {o P N : Nat} {AT WH : Nat → Nat} {x y : Int32} {Q : Int32 → hp → Prop} (t : cAt h o) (ho : isO o) (a : shO o h P N AT WH) (ok : okSh P N AT WH) (hq1 : ∀ h1, isS N x ∧ 0 ≤ y.toInt ∧ y.toInt ≤ 96 → eqE cScr h h1 → Q (secV P N AT WH x.toInt.toNat y.toInt.toNat) h1) (hq0 : ¬ (isS N x ∧ 0 ≤ y.toInt ∧ y.toInt ≤ 96) → Q (-1) h) : w_X11_shared h x y Q := by
  unfold w_X11_shared w_X11_shared_0
  rw [t.1]
  refine ⟨t.2, c_isSet a.1.1 ok.1 (fun z => ⟨fun c => absurd c (by decide), fun _ => ?_⟩) (fun z => ⟨fun _ => hq0 (fun q => z q.1), fun c => absurd rfl c⟩)⟩
  refine c_within (fun c => ⟨fun _ => ⟨t.2, ?_⟩, fun q => absurd q (by decide)⟩) (fun c => ⟨fun q => absurd rfl q, fun _ => hq0 (fun q => c (by rw [tL_int]; exact q.2))⟩)
  rw [tL_int] at c
  have c : 0 ≤ y.toInt ∧ y.toInt ≤ 96 := c
  obtain ⟨set, es, es2, s256, s1, sM, s6⟩ := isS_n ok.1 z
  rw [es2] at hq1
  have es3 := es
  subst es3
  refine c_findRow a.1 a.2 ok (by omega) (fun h10 x10 r10 => ?_)
  have xc := eqE_w (rScr_c ho) x10
  have eg : gR h10 0 = o := by rw [x10.2]; exact t.1
  have hq := hq1 h10 ⟨z, c⟩ xc
  rw [eg]
  obtain ⟨ey, hy⟩ := n_of c.1
  have hy6 : y.toInt.toNat ≤ 96 := by omega
  generalize y.toInt.toNat = k at ey hy hy6 hq
  subst ey
  refine ⟨t.2, c_comesAt (cP_e x10 a.2) ok.2.1.1 hy6 r10 ?_⟩
  rw [sm_rc ok.1 s6]
  exact hq
/-! the reference -/
theorem at_ne {P N i j : Nat} {AT WH : Nat → Nat} (ok : okSh P N AT WH) (hi : i < N) (hj : j < N) (hij : ¬ j = i) : ¬ ((AT i : Int) - (AT j : Int)) % (P : Int) = 0 := fun q => by
  have h2 := ok.2.1.1.1
  have ai := ok.2.2 i hi
  have aj := ok.2.2 j hj
  have nq := ai.2.2 j hj (fun e => hij e.symm)
  have hd := Int.emod_add_mul_ediv ((AT i : Int) - (AT j : Int)) (P : Int)
  rw [q, Int.zero_add] at hd
  have b1 : ((AT i : Int) - (AT j : Int)) / (P : Int) = 0 := by
    rcases Int.lt_trichotomy (((AT i : Int) - (AT j : Int)) / (P : Int)) 0 with z | z | z
    · have := Int.mul_le_mul_of_nonneg_left (show ((AT i : Int) - (AT j : Int)) / (P : Int) ≤ -1 by omega) (show (0 : Int) ≤ P by omega)
      omega
    · exact z
    · have := Int.mul_le_mul_of_nonneg_left (show (1 : Int) ≤ ((AT i : Int) - (AT j : Int)) / (P : Int) by omega) (show (0 : Int) ≤ P by omega)
      omega
  rw [b1, Int.mul_zero] at hd
  exact nq (by omega)
theorem e8s {s i : Nat} (hs : s < 2) (hi : i < 8) : 8 * nI s + nI i = nI (8 * s + i) := by
  rw [show (8 : Int32) = nI 8 from rfl, nI_mul (by omega) (by omega) (by omega), nI_add]
theorem m_bitc {set j : Nat} (hs : set < 2147483648) (hj : j < 31) : (jshr (nI set) (nI j) &&& 1 = 0 ↔ ¬ set / 2 ^ j % 2 = 1) := by
  rw [bit_n hs hj]
  refine Iff.trans (nI_eq (b := 0) (by omega) (by omega)) ?_
  omega
/-- one other share more -/
def vlF (P : Nat) (AT WH : Nat → Nat) (set i : Nat) (x : Int) (j : Nat) : Int := (WH i : Int) * (peF AT set i x j * ivF P AT set i j)
theorem m_rowComes {h : hp} {s P N set at' : Nat} {AT WH : Nat → Nat} {Q : Int32 → Prop} (t : mAt h s) (a : mSh s h N AT WH) (aP : gI h 12 s = nI P) (ok : okSh P N AT WH) (hs : set < 2147483648) (hat : at' ≤ 96) (hq : Q (rsV P (rcF P AT WH N set at' N))) : w_X12_rowComes h (nI set) (nI at') Q := by
  have n8 := ok.1
  have okp := ok.2.1.1
  have hP := okp.2
  have hs2 := t.2
  have hin : vp_in (gI h 0 18) 2 := by rw [t.1]; exact in_n hs2 (by omega)
  have eN : gI h 13 (ix (gI h 0 18)) = nI N := by rw [t.1, ix_n (by omega), a.1]
  have eA := n_toInt (n := at') (by omega)
  have rs0 : rsV P 0 = 0 := t_eq.mpr (by rw [(rs_96 okp 0).1, Int.zero_emod]; rfl)
  unfold w_X12_rowComes w_X12_rowComes_0 w_X12_rowComes_5
  intro X hX
  have key : ∀ n i : Nat, n + i = N → X (rsV P (rcF P AT WH N set at' i), nI i) := by
    intro n
    induction n with
    | zero =>
      intro i hi
      have ei : i = N := by omega
      subst ei
      apply hX
      unfold w_X12_rowComes_b5
      rw [eN]
      exact ⟨hin, fun _ => hq, fun c => absurd (nI_le (Nat.le_refl _) (by omega)) c⟩
    | succ n ih =>
      intro i hi
      have hi8 : i < N := by omega
      have ai := ok.2.2 i hi8
      have nxt := ih (i + 1) (by omega)
      have ein : vp_in (nI (8 * s + i)) 16 := in_n (by omega) (by omega)
      have eAi := n_toInt (n := AT i) (by omega)
      have eWi := n_toInt (n := WH i) (by omega)
      apply hX
      unfold w_X12_rowComes_b5
      rw [eN, m_bitc hs (by omega), t.1, e8s hs2 (by omega), ix_n (n := 8 * s + i) (by omega), (a.2 i hi8).2]
      rw [t.1] at hin
      refine ⟨hin, fun c => absurd c (nI_ge (by omega) (by omega)), fun _ => ⟨fun c => ⟨ein, m_restOf t aP okp ?_⟩, fun c u eu => ?_⟩⟩
      · have b : set / 2 ^ i % 2 = 1 := Classical.not_not.mp c
        have er : rcF P AT WH N set at' (i + 1) = rcF P AT WH N set at' i + ((WH i : Int) * ivF P AT set i N) * peF AT set i at' N := by
          show (if set / 2 ^ i % 2 = 1 then _ else _) = _
          rw [if_pos b]
        rw [er] at nxt
        rw [eWi, show (WH i : Int) = vlF P AT WH set i at' 0 from by
          show (WH i : Int) = WH i * (1 * 1)
          rw [Int.mul_one, Int.mul_one]]
        show w_X12_rowComes_55 Q X (nI set) (nI at') (rsV P (rcF P AT WH N set at' i)) (nI i) h (rsV P (vlF P AT WH set i at' 0)) 0
        unfold w_X12_rowComes_55
        intro Y hY
        have key2 : ∀ m j : Nat, m + j = N → Y (rsV P (vlF P AT WH set i at' j), nI j) := by
          intro m
          induction m with
          | zero =>
            intro j hj
            have ej : j = N := by omega
            subst ej
            obtain ⟨q1, q2, q3, q4⟩ := rs_96 okp (vlF P AT WH set i at' j)
            obtain ⟨w1, w2, w3, w4⟩ := rs_96 okp (rcF P AT WH j set at' i)
            apply hY
            unfold w_X12_rowComes_b55
            rw [eN, t.1]
            refine ⟨hin, fun _ => m_restOf t aP okp (fun u eu => ?_), fun c => absurd (nI_le (Nat.le_refl _) (by omega)) c⟩
            rw [← nI_succ] at eu
            subst eu
            show X (rsV P (rsV P (rcF P AT WH j set at' i) + rsV P (vlF P AT WH set i at' j)).toInt, nI (i + 1))
            rw [t_add (by omega) (by omega), rs_cg okp (cg_add w4 q4)]
            have ev : vlF P AT WH set i at' j = ((WH i : Int) * ivF P AT set i j) * peF AT set i at' j := by
              unfold vlF
              rw [Int.mul_assoc, Int.mul_comm (peF AT set i at' j)]
            rw [ev]
            exact nxt
          | succ m ih2 =>
            intro j hj
            have hj8 : j < N := by omega
            have aj := ok.2.2 j hj8
            have eAj := n_toInt (n := AT j) (by omega)
            have nx := ih2 (j + 1) (by omega)
            have skip : ¬ useP set i j → Y (rsV P (vlF P AT WH set i at' j), nI (j + 1)) := fun c => by
              have e : vlF P AT WH set i at' (j + 1) = vlF P AT WH set i at' j := by
                show (WH i : Int) * ((if useP set i j then _ else peF AT set i at' j) * (if useP set i j then _ else ivF P AT set i j)) = _
                rw [if_neg c, if_neg c]
                rfl
              rw [e] at nx
              exact nx
            apply hY
            unfold w_X12_rowComes_b55
            rw [eN, m_bitc hs (by omega), t.1, e8s hs2 (by omega), e8s hs2 (by omega), ix_n (n := 8 * s + i) (by omega), ix_n (n := 8 * s + j) (by omega), (a.2 i hi8).1, (a.2 j hj8).1]
            refine ⟨hin, fun c => absurd c (nI_ge (by omega) (by omega)), fun _ => ⟨fun c u eu => ?_, fun c => ⟨fun c2 => ⟨in_n (by omega) (by omega), ?_⟩, fun c2 u eu => ?_⟩⟩⟩
            · rw [← nI_succ] at eu
              subst eu
              exact skip (fun q => q.1 ((nI_eq (by omega) (by omega)).mp c))
            · have use : useP set i j := ⟨fun q => c (congrArg nI q), Classical.not_not.mp c2⟩
              have e : vlF P AT WH set i at' (j + 1) = (vlF P AT WH set i at' j * ((at' : Int) - (AT j : Int))) * (ivN P ((AT i : Int) - (AT j : Int)) : Int) := by
                show (WH i : Int) * ((if useP set i j then peF AT set i at' j * ((at' : Int) - (AT j : Int)) else _) * (if useP set i j then ivF P AT set i j * (ivN P ((AT i : Int) - (AT j : Int)) : Int) else _)) = _
                rw [if_pos use, if_pos use]
                unfold vlF
                simp only [Int.mul_assoc, Int.mul_left_comm]
              rw [e] at nx
              have ne := at_ne ok hi8 hj8 (fun q => use.1 q)
              have hv := ivN_at ok.2.1 ne
              have eV := n_toInt (n := ivN P ((AT i : Int) - (AT j : Int))) (by omega)
              obtain ⟨q1, q2, q3, q4⟩ := rs_96 okp (vlF P AT WH set i at' j)
              have ed : (nI at' - nI (AT j)).toInt = (at' : Int) - AT j := by rw [t_sub (by rw [eA, eAj]; omega) (by rw [eA, eAj]; omega), eA, eAj]
              have ed2 : (nI (AT i) - nI (AT j)).toInt = (AT i : Int) - AT j := by rw [t_sub (by rw [eAi, eAj]; omega) (by rw [eAi, eAj]; omega), eAi, eAj]
              refine m_restOf t aP okp ?_
              rw [ed]
              obtain ⟨w1, w2, w3, w4⟩ := rs_96 okp ((at' : Int) - AT j)
              refine m_restOf t aP okp ⟨in_n (by omega) (by omega), in_n (by omega) (by omega), ?_⟩
              show w_X12_restOf h (nI (AT i) - nI (AT j)) _
              have em := (t_mm (y := rsV P (vlF P AT WH set i at' j)) (z := rsV P ((at' : Int) - AT j)) ⟨by omega, by omega⟩ ⟨w2, w3⟩).1
              refine m_restOf t aP okp ?_
              rw [ed2]
              refine m_turned t aP ok.2.1 rfl ne ?_
              show w_X12_restOf h (rsV P (rsV P (vlF P AT WH set i at' j) * rsV P ((at' : Int) - AT j)).toInt * nI (ivN P ((AT i : Int) - (AT j : Int)))) _
              rw [em, rs_cg okp (cg_mul q4 w4)]
              obtain ⟨v1, v2, v3, v4⟩ := rs_96 okp (vlF P AT WH set i at' j * ((at' : Int) - AT j))
              have em2 := (t_mm (y := rsV P (vlF P AT WH set i at' j * ((at' : Int) - AT j))) (z := nI (ivN P ((AT i : Int) - (AT j : Int)))) ⟨by omega, by omega⟩ ⟨by omega, by omega⟩).1
              rw [eV] at em2
              refine m_restOf t aP okp (fun u eu => ?_)
              rw [em2, rs_cg okp (cg_mul v4 (cg_r _))]
              have eu : u = nI j + 1 := eu
              rw [← nI_succ] at eu
              subst eu
              exact nx
            · rw [← nI_succ] at eu
              subst eu
              exact skip (fun q => c2 q.2)
        exact key2 N 0 (by omega)
      · rw [← nI_succ] at eu
        subst eu
        have er : rcF P AT WH N set at' (i + 1) = rcF P AT WH N set at' i := by
          show (if set / 2 ^ i % 2 = 1 then _ else _) = _
          rw [if_neg c]
        rw [er] at nxt
        exact nxt
  have := key N 0 (by omega)
  have e0 : rsV P (rcF P AT WH N set at' 0) = 0 := rs0
  rw [e0] at this
  exact this
theorem m_secret {h : hp} {s P N : Nat} {AT WH : Nat → Nat} {x : Int32} {Q : Int32 → Prop} (t : mAt h s) (a : mSh s h N AT WH) (aP : gI h 12 s = nI P) (ok : okSh P N AT WH) (hq1 : isS N x → Q (secV P N AT WH x.toInt.toNat 0)) (hq0 : ¬ isS N x → Q (-1)) : w_X12_secret h x Q := by
  unfold w_X12_secret w_X12_secret_0
  refine m_isSet t a.1 ok.1 (fun z => ⟨fun c => absurd c (by decide), fun _ => ?_⟩) (fun z => ⟨fun _ => hq0 z, fun c => absurd rfl c⟩)
  have hq := hq1 z
  obtain ⟨set, es, es2, s256, s1, sM, s6⟩ := isS_n ok.1 z
  rw [es2] at hq
  rw [es]
  exact m_rowComes (at' := 0) t a aP ok (by omega) (by omega) hq
theorem m_shared {h : hp} {s P N : Nat} {AT WH : Nat → Nat} {x y : Int32} {Q : Int32 → Prop} (t : mAt h s) (a : mSh s h N AT WH) (aP : gI h 12 s = nI P) (ok : okSh P N AT WH) (hq1 : isS N x ∧ 0 ≤ y.toInt ∧ y.toInt ≤ 96 → Q (secV P N AT WH x.toInt.toNat y.toInt.toNat)) (hq0 : ¬ (isS N x ∧ 0 ≤ y.toInt ∧ y.toInt ≤ 96) → Q (-1)) : w_X12_shared h x y Q := by
  unfold w_X12_shared w_X12_shared_0
  refine m_isSet t a.1 ok.1 (fun z => ⟨fun c => absurd c (by decide), fun _ => ?_⟩) (fun z => ⟨fun _ => hq0 (fun q => z q.1), fun c => absurd rfl c⟩)
  refine m_in (fun c => ⟨fun q => absurd q (by decide), fun _ => ?_⟩) (fun c => ⟨fun _ => hq0 (fun q => c (by rw [tL_int]; exact q.2)), fun q => absurd rfl q⟩)
  rw [tL_int] at c
  have c : 0 ≤ y.toInt ∧ y.toInt ≤ 96 := c
  have hq := hq1 ⟨z, c⟩
  obtain ⟨set, es, es2, s256, s1, sM, s6⟩ := isS_n ok.1 z
  rw [es2] at hq
  obtain ⟨ey, hy⟩ := n_of c.1
  rw [es, ey]
  exact m_rowComes t a aP ok (by omega) (by omega) hq
/-! shareRow: the reference -/
theorem ctU_mono (set i : Nat) {a b : Nat} (h : a ≤ b) : ctU set i a ≤ ctU set i b := by
  induction b with
  | zero => rw [show a = 0 from by omega]; exact Nat.le_refl _
  | succ b ih =>
    rcases Nat.lt_or_ge b a with q | q
    · rw [show a = b + 1 from by omega]; exact Nat.le_refl _
    · have := ih q
      show ctU set i a ≤ ctU set i b + _
      omega
theorem m_fillsRow {h : hp} {s P N set : Nat} {AT WH : Nat → Nat} {Q : hp → Prop} (t : mAt h s) (a : mSh s h N AT WH) (aP : gI h 12 s = nI P) (ok : okSh P N AT WH) (hs : set < 2147483648) (h6 : popN set 8 ≤ 6) (hq : ∀ h1, eqE mScr h h1 → (∀ k, k < 6 → gI h1 43 k = rsV P (cfF P AT WH N set k N)) → Q h1) : w_X12_fillsRow h (nI set) Q := by
  have n8 := ok.1
  have okp := ok.2.1.1
  have hP := okp.2
  have hP2 := okp.1
  have hs2 := t.2
  have rs1 : rsV P 1 = 1 := t_eq.mpr (by rw [(rs_96 okp 1).1, Int.emod_eq_of_lt (by omega) (by omega)]; rfl)
  have rs0 : rsV P 0 = 0 := t_eq.mpr (by rw [(rs_96 okp 0).1, Int.zero_emod]; rfl)
  have hpN : popN set N ≤ 6 := Nat.le_trans (pop_mono set n8) h6
  -- what stands all along
  have mS : ∀ {g : hp}, eqE mScr h g → mAt g s ∧ gI g 12 s = nI P ∧ (∀ i, i < N → gI g 14 (8 * s + i) = nI (AT i) ∧ gI g 15 (8 * s + i) = nI (WH i)) ∧ gI g 13 (ix (gI g 0 18)) = nI N ∧ gI g 0 18 = nI s := fun {g} e => by
    have tg := mAt_e e t
    refine ⟨tg, by rw [eqE_I e (by unfold mScr; omega)]; exact aP, fun i hi => ⟨by rw [eqE_I e (by unfold mScr; omega)]; exact (a.2 i hi).1, by rw [eqE_I e (by unfold mScr; omega)]; exact (a.2 i hi).2⟩, ?_, tg.1⟩
    rw [tg.1, ix_n (by omega), eqE_I e (by unfold mScr; omega)]
    exact a.1
  have hin : vp_in (nI s) 2 := in_n hs2 (by omega)
  -- the shares
  have shares : ∀ g : hp, eqE mScr h g → (∀ k, k < 6 → gI g 43 k = rsV P (cfF P AT WH N set k 0)) → w_X12_fillsRow_23 Q (nI set) 0 g := by
    intro g xg rg
    unfold w_X12_fillsRow_23
    intro X hX
    have key : ∀ (n i : Nat) (g : hp), n + i = N → eqE mScr h g → (∀ k, k < 6 → gI g 43 k = rsV P (cfF P AT WH N set k i)) → X (nI i, g) := by
      intro n
      induction n with
      | zero =>
        intro i g hi xg rg
        have ei : i = N := by omega
        subst ei
        obtain ⟨tg, aPg, ag, eN, e18⟩ := mS xg
        apply hX
        unfold w_X12_fillsRow_b23
        rw [eN, e18]
        exact ⟨hin, fun _ => hq g xg rg, fun c => absurd (nI_le (Nat.le_refl _) (by omega)) c⟩
      | succ n ih =>
        intro i g hi xg rg
        have hi8 : i < N := by omega
        have ai := ok.2.2 i hi8
        have nxt := ih (i + 1)
        obtain ⟨tg, aPg, ag, eN, e18⟩ := mS xg
        have eAi := n_toInt (n := AT i) (by omega)
        have eWi := n_toInt (n := WH i) (by omega)
        apply hX
        unfold w_X12_fillsRow_b23
        rw [eN, e18, m_bitc hs (by omega), e8s hs2 (by omega), ix_n (n := 8 * s + i) (by omega), (ag i hi8).2]
        refine ⟨hin, fun c => absurd c (nI_ge (by omega) (by omega)), fun _ => ⟨fun c => ⟨in_n (by omega) (by omega), m_restOf tg aPg okp ⟨in_n (k := 0) (by omega) (by omega), fun h8 e8 => ?_⟩⟩, fun c u eu => ?_⟩⟩
        · have b : set / 2 ^ i % 2 = 1 := Classical.not_not.mp c
          have hct := ct_pop b N
          rw [if_pos hi8] at hct
          have e8 : h8 = sI g 44 0 1 := e8
          have x8 : eqE mScr h h8 := by rw [e8]; exact eqE_sI xg (by unfold mScr; omega)
          have r8 : ∀ k, k < 6 → gI h8 43 k = rsV P (cfF P AT WH N set k i) := fun k hk => by rw [e8, gI_o _ _ (by decide)]; exact rg k hk
          have p8 : ∀ k, k ≤ ctU set i 0 → gI h8 44 k = rsV P (pcF AT set i 0 k) := fun k hk => by
            have k0 : k = 0 := by
              have : k ≤ 0 := hk
              omega
            subst k0
            show _ = rsV P (if 0 = 0 then 1 else 0)
            rw [if_pos rfl, rs1, e8]
            exact gI_at _ _ _ _
          clear e8
          rw [eWi]
          show w_X12_fillsRow_79 Q X (nI set) (nI i) 0 (rsV P (WH i : Int)) 0 h8
          have eb0 : rsV P (WH i : Int) = rsV P ((WH i : Int) * ivF P AT set i 0) := by
            show _ = rsV P ((WH i : Int) * 1)
            rw [Int.mul_one]
          rw [eb0]
          unfold w_X12_fillsRow_79
          intro Y hY
          have key2 : ∀ (m j : Nat) (g : hp), m + j = N → eqE mScr h g → (∀ k, k < 6 → gI g 43 k = rsV P (cfF P AT WH N set k i)) → (∀ k, k ≤ ctU set i j → gI g 44 k = rsV P (pcF AT set i j k)) → Y (nI (ctU set i j), rsV P ((WH i : Int) * ivF P AT set i j), nI j, g) := by
            intro m
            induction m with
            | zero =>
              intro j g hj xg rg pg
              have ej : j = N := by omega
              subst ej
              obtain ⟨tg, aPg, ag, eN, e18⟩ := mS xg
              apply hY
              unfold w_X12_fillsRow_b79
              rw [eN, e18]
              refine ⟨hin, fun _ => ?_, fun c => absurd (nI_le (Nat.le_refl _) (by omega)) c⟩
              obtain ⟨f1, f2, f3, f4⟩ := rs_96 okp ((WH i : Int) * ivF P AT set i j)
              show w_X12_fillsRow_242 Q X (nI set) (nI i) (nI (ctU set i j)) (rsV P ((WH i : Int) * ivF P AT set i j)) 0 g
              generalize rsV P ((WH i : Int) * ivF P AT set i j) = fac at f1 f2 f3 f4
              unfold w_X12_fillsRow_242
              intro Z hZ
              have key4 : ∀ (m k : Nat) (g : hp), m + k = ctU set i j + 1 → eqE mScr h g → (∀ l, l ≤ ctU set i j → gI g 44 l = rsV P (pcF AT set i j l)) → (∀ l, l < 6 → gI g 43 l = rsV P (if l < k then cfF P AT WH j set l (i + 1) else cfF P AT WH j set l i)) → Z (nI k, g) := by
                intro m
                induction m with
                | zero =>
                  intro k g hk xg pg rg
                  have ek : k = ctU set i j + 1 := by omega
                  subst ek
                  apply hZ
                  refine ⟨fun _ u eu => ?_, fun c => absurd (nI_lt (by omega) (by omega)) c⟩
                  have eu : u = nI i + 1 := eu
                  rw [← nI_succ] at eu
                  subst eu
                  refine nxt g (by omega) xg (fun l hl => ?_)
                  rw [rg l hl]
                  by_cases c : l < ctU set i j + 1
                  · rw [if_pos c]
                  · rw [if_neg c]
                    show _ = rsV P (if set / 2 ^ i % 2 = 1 then cfF P AT WH j set l i + ((WH i : Int) * ivF P AT set i j) * pcF AT set i j l else _)
                    rw [if_pos b, pcF_0 j l (by omega), Int.mul_zero, Int.add_zero]
                | succ m ih4 =>
                  intro k g hk xg pg rg
                  obtain ⟨tg, aPg, ag, eN, e18⟩ := mS xg
                  obtain ⟨q1, q2, q3, q4⟩ := rs_96 okp (pcF AT set i j k)
                  obtain ⟨v1, v2, v3, v4⟩ := rs_96 okp (cfF P AT WH j set k i)
                  have em := t_ma (x := rsV P (cfF P AT WH j set k i)) (y := fac) (z := rsV P (pcF AT set i j k)) ⟨v2, v3⟩ ⟨by omega, by omega⟩ ⟨q2, q3⟩
                  apply hZ
                  unfold w_X12_fillsRow_b242
                  rw [ix_n (n := k) (by omega), pg k (by omega), rg k (by omega), if_neg (Nat.lt_irrefl k)]
                  refine ⟨fun c => absurd c (nI_nlt (by omega) (by omega)), fun _ => ⟨in_n (by omega) (by omega), in_n (by omega) (by omega), m_restOf tg aPg okp ⟨in_n (by omega) (by omega), fun h35 e35 u eu => ?_⟩⟩⟩
                  rw [em] at e35
                  rw [← nI_succ] at eu
                  subst eu
                  refine ih4 (k + 1) h35 (by omega) ?_ (fun l hl => ?_) (fun l hl => ?_)
                  · rw [e35]; exact eqE_sI xg (by unfold mScr; omega)
                  · rw [e35, gI_o _ _ (by omega)]; exact pg l hl
                  · by_cases c : l = k
                    · subst c
                      rw [e35, gI_at, if_pos (Nat.lt_succ_self l)]
                      show _ = rsV P (if set / 2 ^ i % 2 = 1 then cfF P AT WH j set l i + ((WH i : Int) * ivF P AT set i j) * pcF AT set i j l else _)
                      rw [if_pos b]
                      exact rs_cg okp (cg_add v4 (cg_mul f4 q4))
                    · rw [e35, gI_k _ _ c, rg l hl]
                      by_cases c2 : l < k
                      · rw [if_pos c2, if_pos (show l < k + 1 by omega)]
                      · rw [if_neg c2, if_neg (show ¬ l < k + 1 by omega)]
              exact key4 (ctU set i j + 1) 0 g (by omega) xg pg (fun l hl => by rw [if_neg (by omega)]; exact rg l hl)
            | succ m ih2 =>
              intro j g hj xg rg pg
              have hj8 : j < N := by omega
              have aj := ok.2.2 j hj8
              have eAj := n_toInt (n := AT j) (by omega)
              have nx := ih2 (j + 1)
              have hcm := ctU_mono set i (show j + 1 ≤ N from hj8)
              obtain ⟨tg, aPg, ag, eN, e18⟩ := mS xg
              have ecs : ctU set i (j + 1) = ctU set i j + (if useP set i j then 1 else 0) := rfl
              have skip : ¬ useP set i j → Y (nI (ctU set i j), rsV P ((WH i : Int) * ivF P AT set i j), nI (j + 1), g) := fun c => by
                rw [if_neg c, Nat.add_zero] at ecs
                have e2 : ivF P AT set i (j + 1) = ivF P AT set i j := by
                  show (if useP set i j then _ else ivF P AT set i j) = _
                  rw [if_neg c]
                have := nx g (by omega) xg rg (fun k hk => by
                  rw [pg k (by omega)]
                  show _ = rsV P (if useP set i j then _ else pcF AT set i j k)
                  rw [if_neg c])
                rw [ecs, e2] at this
                exact this
              apply hY
              unfold w_X12_fillsRow_b79
              rw [eN, m_bitc hs (by omega), e18, e8s hs2 (by omega), e8s hs2 (by omega), ix_n (n := 8 * s + i) (by omega), ix_n (n := 8 * s + j) (by omega), (ag i hi8).1, (ag j hj8).1]
              refine ⟨hin, fun c => absurd c (nI_ge (by omega) (by omega)), fun _ => ⟨fun c u eu => ?_, fun c => ⟨fun c2 => ⟨in_n (by omega) (by omega), fun x6 e6 => ⟨in_n (by omega) (by omega), ?_⟩⟩, fun c2 u eu => ?_⟩⟩⟩
              · rw [← nI_succ] at eu
                subst eu
                exact skip (fun q => q.1 ((nI_eq (by omega) (by omega)).mp c))
              · have use : useP set i j := ⟨fun q => c (congrArg nI q), Classical.not_not.mp c2⟩
                rw [if_pos use] at ecs
                have e2 : ivF P AT set i (j + 1) = ivF P AT set i j * (ivN P ((AT i : Int) - (AT j : Int)) : Int) := by
                  show (if useP set i j then _ else _) = _
                  rw [if_pos use]
                have ne := at_ne ok hi8 hj8 (fun q => use.1 q)
                have hv := ivN_at ok.2.1 ne
                have eV := n_toInt (n := ivN P ((AT i : Int) - (AT j : Int))) (by omega)
                have ed2 : (nI (AT i) - nI (AT j)).toInt = (AT i : Int) - AT j := by rw [t_sub (by rw [eAi, eAj]; omega) (by rw [eAi, eAj]; omega), eAi, eAj]
                subst e6
                refine m_restOf tg aPg okp ?_
                rw [ed2]
                refine m_turned tg aPg ok.2.1 rfl ne ?_
                obtain ⟨q1, q2, q3, q4⟩ := rs_96 okp ((WH i : Int) * ivF P AT set i j)
                have em2 := (t_mm (y := rsV P ((WH i : Int) * ivF P AT set i j)) (z := nI (ivN P ((AT i : Int) - (AT j : Int)))) ⟨by omega, by omega⟩ ⟨by omega, by omega⟩).1
                rw [eV] at em2
                show w_X12_restOf g (rsV P ((WH i : Int) * ivF P AT set i j) * nI (ivN P ((AT i : Int) - (AT j : Int)))) _
                refine m_restOf tg aPg okp ?_
                rw [em2, rs_cg okp (cg_mul q4 (cg_r _))]
                rw [ecs, e2, ← Int.mul_assoc] at nx
                generalize rsV P ((WH i : Int) * ivF P AT set i j * (ivN P ((AT i : Int) - (AT j : Int)) : Int)) = by' at nx
                refine ⟨in_n (by omega) (by omega), ?_⟩
                show vp_in (nI (ctU set i j) + 1) 7 ∧ ∀ h21, h21 = sI g 44 (ix (nI (ctU set i j) + 1)) (gI g 44 (ix (nI (ctU set i j)))) → w_X12_fillsRow_179 Q X Y (nI set) (nI i) (nI (ctU set i j)) by' (nI j) (nI (AT j)) (nI (ctU set i j)) h21
                rw [← nI_succ, ix_n (n := ctU set i j + 1) (by omega), ix_n (n := ctU set i j) (by omega), pg _ (Nat.le_refl _)]
                refine ⟨in_n (by omega) (by omega), fun h21 e21 => ?_⟩
                have x21 : eqE mScr h h21 := by rw [e21]; exact eqE_sI xg (by unfold mScr; omega)
                have r21 : ∀ k, k < 6 → gI h21 43 k = rsV P (cfF P AT WH N set k i) := fun k hk => by rw [e21, gI_o _ _ (by decide)]; exact rg k hk
                have lo21 : ∀ l, l ≤ ctU set i j → gI h21 44 l = rsV P (pcF AT set i j l) := fun l hl => by rw [e21, gI_k _ _ (by omega)]; exact pg l hl
                have hi21 : gI h21 44 (ctU set i j + 1) = rsV P (pcF AT set i (j + 1) (ctU set i j + 1)) := by
                  rw [e21, gI_at]
                  show _ = rsV P (if useP set i j then (if ctU set i j + 1 = 0 then 0 else pcF AT set i j (ctU set i j + 1 - 1)) - (AT j : Int) * pcF AT set i j (ctU set i j + 1) else _)
                  rw [if_pos use, if_neg (by omega), Nat.add_sub_cancel, pcF_0 j (ctU set i j + 1) (by omega), Int.mul_zero, Int.sub_zero]
                clear e21
                unfold w_X12_fillsRow_179
                intro Z hZ
                have e1' : (-1 : Int32).toInt = -1 := rfl
                have key3 : ∀ (k : Nat) (g : hp), k ≤ ctU set i j + 1 → eqE mScr h g → (∀ l, l < 6 → gI g 43 l = rsV P (cfF P AT WH N set l i)) → (∀ l, l < k → gI g 44 l = rsV P (pcF AT set i j l)) → (∀ l, k ≤ l → l ≤ ctU set i j + 1 → gI g 44 l = rsV P (pcF AT set i (j + 1) l)) → Z (nI k - 1, g) := by
                  intro k
                  induction k with
                  | zero =>
                    intro g _ xg rg lo hi'
                    apply hZ
                    refine ⟨fun _ y ey u eu => ?_, fun c => absurd (show (nI 0 - 1) < 0 by decide) c⟩
                    rw [← nI_succ] at ey eu
                    subst ey eu
                    exact nx g (by omega) xg rg (fun l hl => hi' l (Nat.zero_le _) hl)
                  | succ k ih3 =>
                    intro g hk xg rg lo hi'
                    rw [nI_pred]
                    obtain ⟨tg, aPg, ag, eN, e18⟩ := mS xg
                    obtain ⟨q1, q2, q3, q4⟩ := rs_96 okp (pcF AT set i j k)
                    -- behind what is ahead of it
                    have fin : ∀ (y : Int32) (z : Int), (0 ≤ y.toInt ∧ y.toInt ≤ 96) → cg P y.toInt z → z - (AT j : Int) * pcF AT set i j k = pcF AT set i (j + 1) k → w_X12_fillsRow_209 Q X Y Z (nI set) (nI i) (nI (ctU set i j)) by' (nI j) (nI (AT j)) (nI k) g y (nI k) := by
                      intro y z hy hc hz
                      have em := t_ms (x := y) (y := nI (AT j)) (z := rsV P (pcF AT set i j k)) hy ⟨by omega, by omega⟩ ⟨q2, q3⟩
                      unfold w_X12_fillsRow_209
                      rw [ix_n (n := k) (by omega), lo k (Nat.lt_succ_self k)]
                      refine ⟨in_n (by omega) (by omega), m_restOf tg aPg okp ⟨in_n (by omega) (by omega), fun h29 e29 u eu => ?_⟩⟩
                      rw [em, eAj, rs_cg okp (cg_sub hc (cg_mul (cg_r _) q4)), hz] at e29
                      rw [m1] at eu
                      subst eu
                      refine ih3 h29 (by omega) ?_ (fun l hl => ?_) (fun l hl => ?_) (fun l h1 h2 => ?_)
                      · rw [e29]; exact eqE_sI xg (by unfold mScr; omega)
                      · rw [e29, gI_o _ _ (by decide)]; exact rg l hl
                      · rw [e29, gI_k _ _ (by omega)]; exact lo l (by omega)
                      · by_cases c : l = k
                        · subst c
                          rw [e29]; exact gI_at _ _ _ _
                        · rw [e29, gI_k _ _ c]; exact hi' l (by omega) h2
                    have epc : pcF AT set i (j + 1) k = (if k = 0 then 0 else pcF AT set i j (k - 1)) - (AT j : Int) * pcF AT set i j k := by
                      show (if useP set i j then _ else _) = _
                      rw [if_pos use]
                    apply hZ
                    refine ⟨fun c => absurd c (nI_pos (by omega)), fun _ => ⟨fun c => ?_, fun c => ?_⟩⟩
                    · have c := (nI_leI (b := 0) (by omega) (by omega)).mp c
                      have k0 : k = 0 := by omega
                      refine fin 0 0 (by decide) (cg_r _) ?_
                      rw [epc, if_pos k0]
                    · have c : ¬ k = 0 := fun q => c (by rw [q]; exact Int32.le_refl 0)
                      obtain ⟨k', rfl⟩ : ∃ k', k = k' + 1 := ⟨k - 1, by omega⟩
                      obtain ⟨v1, v2, v3, v4⟩ := rs_96 okp (pcF AT set i j k')
                      show vp_in (nI (k' + 1) - 1) 7 ∧ w_X12_fillsRow_209 Q X Y Z (nI set) (nI i) (nI (ctU set i j)) by' (nI j) (nI (AT j)) (nI (k' + 1)) g (gI g 44 (ix (nI (k' + 1) - 1))) (nI (k' + 1))
                      rw [nI_pred, ix_n (n := k') (by omega), lo k' (by omega)]
                      refine ⟨in_n (by omega) (by omega), fin _ (pcF AT set i j k') ⟨v2, v3⟩ v4 ?_⟩
                      rw [epc, if_neg c]
                      rfl
                have := key3 (ctU set i j + 1) h21 (Nat.le_refl _) x21 r21 (fun l hl => lo21 l (by omega)) (fun l h1 h2 => by rw [show l = ctU set i j + 1 from by omega]; exact hi21)
                rw [nI_pred] at this
                exact this
              · rw [← nI_succ] at eu
                subst eu
                exact skip (fun q => c2 q.2)
          exact key2 N 0 h8 (by omega) x8 r8 p8
        · rw [← nI_succ] at eu
          subst eu
          refine nxt g (by omega) xg (fun k hk => ?_)
          rw [rg k hk]
          show _ = rsV P (if set / 2 ^ i % 2 = 1 then _ else cfF P AT WH N set k i)
          rw [if_neg c]
    exact key N 0 g (by omega) xg rg
  unfold w_X12_fillsRow w_X12_fillsRow_0 w_X12_fillsRow_2
  intro X hX
  have key : ∀ (n k : Nat) (g : hp), n + k = 6 → eqE mScr h g → (∀ l, l < k → gI g 43 l = 0) → X (nI k, g) := by
    intro n
    induction n with
    | zero =>
      intro k g hk xg zg
      have ek : k = 6 := by omega
      subst ek
      apply hX
      refine ⟨fun _ => shares g xg (fun l hl => ?_), fun c => absurd (show (6 : Int32) ≤ nI 6 by decide) c⟩
      rw [zg l hl]
      exact rs0.symm
    | succ n ih =>
      intro k g hk xg zg
      apply hX
      refine ⟨fun c => absurd c (nI_ge (b := 6) (by omega) (by omega)), fun _ => ⟨in_n (by omega) (by omega), fun h2 e2 u eu => ?_⟩⟩
      have e2 : h2 = sI g 43 (ix (nI k)) 0 := e2
      have eu : u = nI k + 1 := eu
      rw [ix_n (by omega)] at e2
      rw [← nI_succ] at eu
      subst eu
      refine ih (k + 1) h2 (by omega) ?_ (fun l hl => ?_)
      · rw [e2]; exact eqE_sI xg (by unfold mScr; omega)
      · by_cases c : l = k
        · subst c
          rw [e2]; exact gI_at _ _ _ _
        · rw [e2, gI_k _ _ c]; exact zg l (by omega)
  exact key 6 0 h (by omega) (eqE_refl h) (fun l h => by omega)
theorem m_shareRow {h : hp} {s P N : Nat} {AT WH : Nat → Nat} {x y : Int32} {Q : Int32 → hp → Prop} (t : mAt h s) (a : mSh s h N AT WH) (aP : gI h 12 s = nI P) (ok : okSh P N AT WH) (hq1 : ∀ h1, isS N x ∧ 0 ≤ y.toInt ∧ y.toInt < (popN x.toInt.toNat 8 : Int) → eqE mScr h h1 → Q (rsV P (cfF P AT WH N x.toInt.toNat y.toInt.toNat N)) h1) (hq0 : ¬ (isS N x ∧ 0 ≤ y.toInt ∧ y.toInt < (popN x.toInt.toNat 8 : Int)) → Q (-1) h) : w_X12_shareRow h x y Q := by
  have z0 : (0 : Int64).toInt = 0 := rfl
  have i1 : (1 : Int32).toInt = 1 := rfl
  unfold w_X12_shareRow w_X12_shareRow_0
  refine m_isSet t a.1 ok.1 (fun z => ⟨fun c => absurd c (by decide), fun _ => ?_⟩) (fun z => ⟨fun _ => hq0 (fun q => z q.1), fun c => absurd rfl c⟩)
  obtain ⟨set, es, es2, s256, s1, sM, s6⟩ := isS_n ok.1 z
  rw [es2] at hq1 hq0
  subst es
  have hp1 := pop_pos set s256 s1
  have eP' := n_toInt (n := popN set 8) (by omega)
  have e1 : (nI (popN set 8) - 1).toInt = (popN set 8 : Int) - 1 := by rw [t_sub (by rw [eP', i1]; omega) (by rw [eP', i1]; omega), eP', i1]
  refine m_bits (by omega) (m_in (fun c => ⟨fun _ => ?_, fun q => absurd q (by decide)⟩) (fun c => ⟨fun q => absurd rfl q, fun _ => hq0 (fun q => c ?_)⟩))
  · rw [tL_int, tL_int, e1, z0] at c
    refine m_fillsRow t a aP ok (by omega) s6 (fun h9 x9 r9 => ?_)
    have hq := hq1 h9 ⟨z, by omega, by omega⟩ x9
    obtain ⟨ey, hy⟩ := n_of (x := y) (by omega)
    have hy6 : y.toInt.toNat < 6 := by omega
    generalize y.toInt.toNat = k at ey hy hy6 hq
    subst ey
    rw [ix_n hy, r9 k hy6]
    exact ⟨in_n hy6 hy, hq⟩
  · rw [tL_int, tL_int, e1, z0]
    have := q.2
    omega
/-! wrong -/
noncomputable def offV (P N : Nat) (AT WH : Nat → Nat) (set : Nat) : Nat := bsP (fun i => ¬ secV P N AT WH set (AT i) = rsV P (WH i : Int)) N
noncomputable def wrF (P N : Nat) (AT WH : Nat → Nat) (n : Nat) : Nat → Option Nat → Option Nat
  | 0, b => b
  | m + 1, b => wrF P N AT WH n m (if popN (2 ^ N - (m + 1)) 8 = n then (match b with
    | none => some (offV P N AT WH (2 ^ N - (m + 1)))
    | some v => if popN (offV P N AT WH (2 ^ N - (m + 1))) 8 < popN v 8 then some (offV P N AT WH (2 ^ N - (m + 1))) else some v) else b)
theorem wrF_s {P N n m : Nat} {AT WH : Nat → Nat} {b : Option Nat} : wrF P N AT WH n (m + 1) b = wrF P N AT WH n m (if popN (2 ^ N - (m + 1)) 8 = n then (match b with
    | none => some (offV P N AT WH (2 ^ N - (m + 1)))
    | some v => if popN (offV P N AT WH (2 ^ N - (m + 1))) 8 < popN v 8 then some (offV P N AT WH (2 ^ N - (m + 1))) else some v) else b) := rfl
theorem wrF_some {P N n : Nat} {AT WH : Nat → Nat} : ∀ (m v : Nat), ∃ w, wrF P N AT WH n m (some v) = some w
  | 0, v => ⟨v, rfl⟩
  | m + 1, v => by
    unfold wrF
    by_cases c : popN (2 ^ N - (m + 1)) 8 = n
    · rw [if_pos c]
      show ∃ w, wrF P N AT WH n m (if popN (offV P N AT WH (2 ^ N - (m + 1))) 8 < popN v 8 then some (offV P N AT WH (2 ^ N - (m + 1))) else some v) = some w
      by_cases c2 : popN (offV P N AT WH (2 ^ N - (m + 1))) 8 < popN v 8
      · rw [if_pos c2]; exact wrF_some m _
      · rw [if_neg c2]; exact wrF_some m v
    · rw [if_neg c]; exact wrF_some m v
theorem wrF_ex {P N n set : Nat} {AT WH : Nat → Nat} (h1 : set < 2 ^ N) (h2 : popN set 8 = n) : ∀ m, m < 2 ^ N → 2 ^ N - m ≤ set → ∃ w, wrF P N AT WH n m none = some w
  | 0, _, h => by omega
  | m + 1, hm, h => by
    unfold wrF
    by_cases c : popN (2 ^ N - (m + 1)) 8 = n
    · rw [if_pos c]
      exact wrF_some m _
    · rw [if_neg c]
      have : ¬ 2 ^ N - (m + 1) = set := fun q => c (by rw [q]; exact h2)
      exact wrF_ex h1 h2 m (by omega) (by omega)
theorem pop_full : ∀ n, n ≤ 8 → popN (2 ^ n - 1) 8 = n := by decide +kernel
theorem offV_lt {P N set : Nat} {AT WH : Nat → Nat} (hN : N ≤ 8) : offV P N AT WH set < 256 := Nat.lt_of_lt_of_le (bsP_lt _ N) (pow_8 hN)
theorem c_sharesOff {o : Nat} {h : hp} {N P set : Nat} {AT WH : Nat → Nat} {Q : Int32 → Prop} (a : cSh o h N AT WH) (aP : gI h o 1 = nI P) (ok : okSh P N AT WH) (h6 : popN set 8 ≤ 6) (row : ∀ k, k < 6 → gI h (o + 4) k = rsV P (cfF P AT WH N set k N)) (hq : Q (nI (offV P N AT WH set))) : w_X6_sharesOff o h Q := by
  have n8 := ok.1
  have okp := ok.2.1.1
  have hP := okp.2
  unfold w_X6_sharesOff w_X6_sharesOff_0 w_X6_sharesOff_4
  intro X hX
  have key : ∀ n i : Nat, n + i = N → X (nI (bsP (fun i => ¬ secV P N AT WH set (AT i) = rsV P (WH i : Int)) i), nI i) := by
    intro n
    induction n with
    | zero =>
      intro i hi
      have ei : i = N := by omega
      subst ei
      apply hX
      unfold w_X6_sharesOff_b4
      rw [a.1]
      exact ⟨fun _ => hq, fun c => absurd (nI_le (Nat.le_refl _) (by omega)) c⟩
    | succ n ih =>
      intro i hi
      have hi8 : i < N := by omega
      have ai := ok.2.2 i hi8
      have nxt := ih (i + 1) (by omega)
      have eb : bsP (fun i => ¬ secV P N AT WH set (AT i) = rsV P (WH i : Int)) (i + 1) = bsP (fun i => ¬ secV P N AT WH set (AT i) = rsV P (WH i : Int)) i + ifC (¬ secV P N AT WH set (AT i) = rsV P (WH i : Int)) (2 ^ i) 0 := rfl
      rw [eb] at nxt
      have eWi := n_toInt (n := WH i) (by omega)
      apply hX
      unfold w_X6_sharesOff_b4
      rw [a.1, ix_n (n := i) (by omega), (a.2 i hi8).1, (a.2 i hi8).2]
      refine ⟨fun c => absurd c (nI_ge (by omega) (by omega)), fun _ => ⟨in_n (by omega) (by omega), c_comesAt aP okp (by omega) row ⟨in_n (by omega) (by omega), c_restOf aP okp (by rw [tL_int, eWi]; omega) ?_⟩⟩⟩
      rw [sm_rc n8 h6, tL_int, eWi]
      show (secV P N AT WH set (AT i) = rsV P (WH i : Int) → _) ∧ (¬ secV P N AT WH set (AT i) = rsV P (WH i : Int) → _)
      refine ⟨fun c u eu => ?_, fun c y ey u eu => ?_⟩
      · have eu : u = nI i + 1 := eu
        rw [← nI_succ] at eu
        subst eu
        rw [ifC_neg (fun q => q c), Nat.add_zero] at nxt
        exact nxt
      · have eu : u = nI i + 1 := eu
        have ey : y = nI (bsP (fun i => ¬ secV P N AT WH set (AT i) = rsV P (WH i : Int)) i) ||| jshl 1 (nI i) := ey
        rw [or_nI (bsP_lt _ i) (by omega)] at ey
        rw [← nI_succ] at eu
        subst eu ey
        rw [ifC_pos c] at nxt
        exact nxt
  exact key N 0 (by omega)
theorem isS_of {N set : Nat} (hN : N ≤ 8) (h1 : 1 ≤ set) (h2 : set < 2 ^ N) (h6 : popN set 8 ≤ 6) : isS N (nI set) := by
  have h8 := pow_8 hN
  have e := n_toInt (n := set) (by omega)
  refine ⟨by omega, by omega, ?_⟩
  rw [e]
  exact h6
theorem c_wrong {h : hp} {o P N : Nat} {AT WH : Nat → Nat} {x : Int32} {Q : Int32 → hp → Prop} (t : cAt h o) (ho : isO o) (a : shO o h P N AT WH) (ok : okSh P N AT WH) (hq0 : ¬ (1 ≤ x.toInt ∧ x.toInt ≤ 6) → Q (-1) h) (hq1 : 1 ≤ x.toInt ∧ x.toInt ≤ 6 → (N : Int) < x.toInt → Q (-2) h) (hq2 : ∀ w h1, 1 ≤ x.toInt ∧ x.toInt ≤ 6 → x.toInt ≤ (N : Int) → wrF P N AT WH x.toInt.toNat (2 ^ N - 1) none = some w → eqE cScr h h1 → Q (nI w) h1) : w_X11_wrong h x Q := by
  have n8 := ok.1
  have h8 := pow_8 n8
  have hpos : 0 < 2 ^ N := Nat.pow_pos (by decide)
  have eN := n_toInt (n := N) (by omega)
  unfold w_X11_wrong w_X11_wrong_0
  rw [t.1, a.1.1]
  refine c_within (fun c => ⟨fun _ => ⟨t.2, fun c2 => ⟨t.2, ?_⟩, fun c2 => hq1 ?_ ?_⟩, fun q => absurd q (by decide)⟩) (fun c => ⟨fun q => absurd rfl q, fun _ => hq0 (fun q => c (by rw [tL_int]; exact q))⟩)
  · rw [tL_int] at c
    have c : 1 ≤ x.toInt ∧ x.toInt ≤ 6 := c
    rw [t_le, eN] at c2
    have hq := fun w h1 => hq2 w h1 c c2
    have hq0 := True.intro
    have hq1 := True.intro
    have hq2 := True.intro
    obtain ⟨ex, hx⟩ := n_of (x := x) (by omega)
    have hn1 : 1 ≤ x.toInt.toNat := by omega
    have hn6 : x.toInt.toNat ≤ 6 := by omega
    have hnN : x.toInt.toNat ≤ N := by omega
    generalize x.toInt.toNat = n at ex hx hn1 hn6 hnN hq
    have c := True.intro
    have c2 := True.intro
    subst ex
    unfold w_X6_offRow w_X6_offRow_0 w_X6_offRow_7
    intro X hX
    have key : ∀ (m : Nat) (g : hp) (b : Option Nat) (v f : Int32), m < 2 ^ N → eqE cScr h g → (∀ w, b = some w → w < 256) → (b = none → v = 0 ∧ f = 0) → (∀ w, b = some w → v = nI w ∧ f = 1) → wrF P N AT WH n m b = wrF P N AT WH n (2 ^ N - 1) none → X (v, f, nI (2 ^ N - m), g) := by
      intro m
      induction m with
      | zero =>
        intro g b v f _ xg hb b0 b1 e
        have g0 : gI g (o + 9) 0 = nI N := by rw [eqE_I xg (by unfold cScr; rcases ho with q | q <;> subst q <;> omega)]; exact a.1.1
        apply hX
        unfold w_X6_offRow_b7
        rw [g0, shl1 N (by omega)]
        refine ⟨fun _ => ?_, fun c => absurd (nI_le (by omega) (by omega)) c⟩
        have hf : 2 ^ n - 1 < 2 ^ N := by
          have : 2 ^ n ≤ 2 ^ N := Nat.pow_le_pow_right (by decide) hnN
          have : 0 < 2 ^ n := Nat.pow_pos (by decide)
          omega
        have hf1 : 1 ≤ 2 ^ n - 1 ∨ n = 0 := by
          rcases Nat.eq_zero_or_pos n with q | q
          · exact Or.inr q
          · have : 2 ^ 1 ≤ 2 ^ n := Nat.pow_le_pow_right (by decide) q
            exact Or.inl (by omega)
        cases hbb : b with
        | some w =>
          obtain ⟨v1, _⟩ := b1 w hbb
          show Q v g
          rw [v1]
          refine hq w g ?_ xg
          rw [← e, hbb]; rfl
        | none =>
          exfalso
          rw [hbb] at e
          have e : none = wrF P N AT WH n (2 ^ N - 1) none := e
          rcases hf1 with q | q
          · obtain ⟨w, hw⟩ := wrF_ex (P := P) (AT := AT) (WH := WH) hf (pop_full n (by omega)) (2 ^ N - 1) (by omega) (by omega)
            rw [hw] at e
            exact absurd e (by simp)
          · subst q
            omega
      | succ m ih =>
        intro g b v f hm xg hb b0 b1 e
        have g0 : gI g (o + 9) 0 = nI N := by rw [eqE_I xg (by unfold cScr; rcases ho with q | q <;> subst q <;> omega)]; exact a.1.1
        have ag : cSh (o + 9) g N AT WH := ⟨g0, fun i hi => ⟨by rw [eqE_I xg (by unfold cScr; rcases ho with q | q <;> subst q <;> omega)]; exact (a.1.2 i hi).1, by rw [eqE_I xg (by unfold cScr; rcases ho with q | q <;> subst q <;> omega)]; exact (a.1.2 i hi).2⟩⟩
        have aPg : gI g (o + 9) 1 = nI P := by rw [eqE_I xg (by unfold cScr; rcases ho with q | q <;> subst q <;> omega)]; exact a.2
        have e1 : nI (2 ^ N - (m + 1)) + 1 = nI (2 ^ N - m) := by rw [← nI_succ]; congr 1; omega
        have hp8 := pop_le (2 ^ N - (m + 1)) 8
        rw [wrF_s] at e
        apply hX
        unfold w_X6_offRow_b7
        rw [g0, shl1 N (by omega)]
        refine ⟨fun c => absurd c (nI_ge (by omega) (by omega)), fun _ => c_bitCount (by omega) ⟨fun c u eu => ?_, fun c => ?_⟩⟩
        · have c : ¬ popN (2 ^ N - (m + 1)) 8 = n := fun q => c (congrArg nI q)
          have eu : u = nI (2 ^ N - (m + 1)) + 1 := eu
          rw [e1] at eu
          subst eu
          rw [if_neg c] at e
          exact ih g b v f (by omega) xg hb b0 b1 e
        · have c := (nI_eq (by omega) (by omega)).mp c
          rw [if_pos c] at e
          refine c_isSet g0 n8 (fun _ => ⟨fun q => absurd q (by decide), fun _ => ?_⟩) (fun z => absurd (isS_of n8 (by omega) (by omega) (by omega)) z)
          refine c_findRow ag aPg ok (by omega) (fun h10 x10 r10 => ?_)
          have xc := eqE_trans xg (eqE_w (rScr_c ho) x10)
          refine c_sharesOff (cSh_e x10 ag) (cP_e x10 aPg) ok (by omega) r10 ?_
          have hof := offV_lt (P := P) (set := 2 ^ N - (m + 1)) (AT := AT) (WH := WH) n8
          generalize offV P N AT WH (2 ^ N - (m + 1)) = ov at e hof
          cases hbb : b with
          | none =>
            obtain ⟨v0, f0⟩ := b0 hbb
            rw [hbb] at e
            refine ⟨fun _ u eu => ?_, fun q => absurd f0 q⟩
            have eu : u = nI (2 ^ N - (m + 1)) + 1 := eu
            rw [e1] at eu
            subst eu
            exact ih h10 (some ov) (nI ov) 1 (by omega) xc (fun w hw => by have := Option.some.inj hw; omega) (fun q => absurd q (by simp)) (fun w hw => by rw [← Option.some.inj hw]; exact ⟨rfl, rfl⟩) e
          | some w =>
            obtain ⟨v1, f1⟩ := b1 w hbb
            have hw := hb w hbb
            rw [hbb] at e
            have e : wrF P N AT WH n m (if popN ov 8 < popN w 8 then some ov else some w) = _ := e
            have q1 := pop_le ov 8
            have q2 := pop_le w 8
            refine ⟨fun q => absurd q (by show ¬ f = 0; rw [f1]; decide), fun _ => c_bitCount hof ?_⟩
            show w_J6_bitCount_0f7a4 v _
            rw [v1]
            refine c_bitCount hw ⟨fun c3 u eu => ?_, fun c3 u eu => ?_⟩
            · have c3 := (nI_leI (by omega) (by omega)).mp c3
              have eu : u = nI (2 ^ N - (m + 1)) + 1 := eu
              rw [e1] at eu
              subst eu
              rw [if_neg (by omega)] at e
              have := ih h10 (some w) v f (by omega) xc (fun w' hw' => by have := Option.some.inj hw'; omega) (fun q => absurd q (by simp)) (fun w' hw' => by rw [← Option.some.inj hw']; exact ⟨v1, f1⟩) e
              rw [v1] at this
              exact this
            · have c3 : ¬ popN w 8 ≤ popN ov 8 := fun q => c3 (nI_le q (by omega))
              have eu : u = nI (2 ^ N - (m + 1)) + 1 := eu
              rw [e1] at eu
              subst eu
              rw [if_pos (by omega)] at e
              exact ih h10 (some ov) (nI ov) 1 (by omega) xc (fun w' hw' => by have := Option.some.inj hw'; omega) (fun q => absurd q (by simp)) (fun w' hw' => by rw [← Option.some.inj hw']; exact ⟨rfl, rfl⟩) e
    have := key (2 ^ N - 1) h none 0 0 (by omega) (eqE_refl h) (fun w hw => absurd hw (by simp)) (fun _ => ⟨rfl, rfl⟩) (fun w hw => absurd hw (by simp)) rfl
    rw [show 2 ^ N - (2 ^ N - 1) = 1 from by omega] at this
    exact this
  · rw [tL_int] at c; exact c
  · rw [t_le, eN] at c2; omega
theorem m_wrong {h : hp} {s P N : Nat} {AT WH : Nat → Nat} {x : Int32} {Q : Int32 → Prop} (t : mAt h s) (a : mSh s h N AT WH) (aP : gI h 12 s = nI P) (ok : okSh P N AT WH) (hq0 : ¬ (1 ≤ x.toInt ∧ x.toInt ≤ 6) → Q (-1)) (hq1 : 1 ≤ x.toInt ∧ x.toInt ≤ 6 → (N : Int) < x.toInt → Q (-2)) (hq2 : ∀ w, 1 ≤ x.toInt ∧ x.toInt ≤ 6 → x.toInt ≤ (N : Int) → wrF P N AT WH x.toInt.toNat (2 ^ N - 1) none = some w → Q (nI w)) : w_X12_wrong h x Q := by
  have n8 := ok.1
  have okp := ok.2.1.1
  have hP := okp.2
  have hs2 := t.2
  have h8 := pow_8 n8
  have hpos : 0 < 2 ^ N := Nat.pow_pos (by decide)
  have eN := n_toInt (n := N) (by omega)
  have hin : vp_in (gI h 0 18) 2 := by rw [t.1]; exact in_n hs2 (by omega)
  have e13 : gI h 13 (ix (gI h 0 18)) = nI N := by rw [t.1, ix_n (by omega), a.1]
  unfold w_X12_wrong w_X12_wrong_0
  rw [e13]
  refine m_in (fun c => ⟨fun _ => ⟨hin, fun c2 => ?_, fun c2 => hq1 ?_ ?_⟩, fun q => absurd q (by decide)⟩) (fun c => ⟨fun q => absurd rfl q, fun _ => hq0 (fun q => c (by rw [tL_int]; exact q))⟩)
  · rw [tL_int] at c
    have c : 1 ≤ x.toInt ∧ x.toInt ≤ 6 := c
    rw [t_le, eN] at c2
    have hq := fun w => hq2 w c c2
    have hq0 := True.intro
    have hq1 := True.intro
    have hq2 := True.intro
    obtain ⟨ex, hx⟩ := n_of (x := x) (by omega)
    have hn1 : 1 ≤ x.toInt.toNat := by omega
    have hn6 : x.toInt.toNat ≤ 6 := by omega
    have hnN : x.toInt.toNat ≤ N := by omega
    generalize x.toInt.toNat = n at ex hx hn1 hn6 hnN hq
    have c := True.intro
    have c2 := True.intro
    subst ex
    unfold w_X12_wrong_35
    intro X hX
    have key : ∀ (m : Nat) (b : Option Nat) (v : Int32), m < 2 ^ N → (∀ w, b = some w → w < 256) → (b = none → v = -2) → (∀ w, b = some w → v = nI w) → wrF P N AT WH n m b = wrF P N AT WH n (2 ^ N - 1) none → X (v, nI (2 ^ N - m)) := by
      intro m
      induction m with
      | zero =>
        intro b v _ hb b0 b1 e
        apply hX
        unfold w_X12_wrong_b35
        rw [e13, shl1 N (by omega)]
        refine ⟨hin, fun _ => ?_, fun c => absurd (nI_le (by omega) (by omega)) c⟩
        have hf : 2 ^ n - 1 < 2 ^ N := by
          have : 2 ^ n ≤ 2 ^ N := Nat.pow_le_pow_right (by decide) hnN
          have : 0 < 2 ^ n := Nat.pow_pos (by decide)
          omega
        have hf1 : 1 ≤ 2 ^ n - 1 := by
          have : 2 ^ 1 ≤ 2 ^ n := Nat.pow_le_pow_right (by decide) hn1
          omega
        cases hbb : b with
        | some w =>
          show Q v
          rw [b1 w hbb]
          refine hq w ?_
          rw [← e, hbb]; rfl
        | none =>
          exfalso
          rw [hbb] at e
          have e : none = wrF P N AT WH n (2 ^ N - 1) none := e
          obtain ⟨w, hw⟩ := wrF_ex (P := P) (AT := AT) (WH := WH) hf (pop_full n (by omega)) (2 ^ N - 1) (by omega) (by omega)
          rw [hw] at e
          exact absurd e (by simp)
      | succ m ih =>
        intro b v hm hb b0 b1 e
        have e1 : nI (2 ^ N - (m + 1)) + 1 = nI (2 ^ N - m) := by rw [← nI_succ]; congr 1; omega
        have hp8 := pop_le (2 ^ N - (m + 1)) 8
        rw [wrF_s] at e
        apply hX
        unfold w_X12_wrong_b35
        rw [e13, shl1 N (by omega)]
        refine ⟨hin, fun c => absurd c (nI_ge (by omega) (by omega)), fun _ => m_bits (by omega) ⟨fun c => ?_, fun c u eu => ?_⟩⟩
        · have c := (nI_eq (by omega) (by omega)).mp c
          rw [if_pos c] at e
          have hof := offV_lt (P := P) (set := 2 ^ N - (m + 1)) (AT := AT) (WH := WH) n8
          show w_X12_wrong_67 Q X (nI n) v (nI (2 ^ N - (m + 1))) h 0 0
          unfold w_X12_wrong_67
          intro Y hY
          have key2 : ∀ k i : Nat, k + i = N → Y (nI (bsP (fun i => ¬ secV P N AT WH (2 ^ N - (m + 1)) (AT i) = rsV P (WH i : Int)) i), nI i) := by
            intro k
            induction k with
            | zero =>
              intro i hi
              have ei : i = N := by omega
              rw [ei]
              apply hY
              unfold w_X12_wrong_b67
              rw [e13]
              refine ⟨hin, fun _ => ?_, fun c => absurd (nI_le (Nat.le_refl _) (by omega)) c⟩
              show (v < 0 → ∀ x3_12, x3_12 = nI (2 ^ N - (m + 1)) + 1 → X (nI (offV P N AT WH (2 ^ N - (m + 1))), x3_12)) ∧ (¬ v < 0 → w_X12_bits (nI (offV P N AT WH (2 ^ N - (m + 1)))) (fun r13 => w_X12_bits v (fun r15 => (r15 ≤ r13 → ∀ x3_18, x3_18 = nI (2 ^ N - (m + 1)) + 1 → X (v, x3_18)) ∧ (¬ r15 ≤ r13 → ∀ x3_19, x3_19 = nI (2 ^ N - (m + 1)) + 1 → X (nI (offV P N AT WH (2 ^ N - (m + 1))), x3_19)))))
              generalize offV P N AT WH (2 ^ N - (m + 1)) = ov at e hof
              cases hbb : b with
              | none =>
                have v0 := b0 hbb
                rw [hbb] at e
                refine ⟨fun _ u eu => ?_, fun q => absurd (by rw [v0]; decide) q⟩
                rw [e1] at eu
                subst eu
                exact ih (some ov) (nI ov) (by omega) (fun w hw => by have := Option.some.inj hw; omega) (fun q => absurd q (by simp)) (fun w hw => by rw [← Option.some.inj hw]) e
              | some w =>
                have v1 := b1 w hbb
                have hw := hb w hbb
                rw [hbb] at e
                have e : wrF P N AT WH n m (if popN ov 8 < popN w 8 then some ov else some w) = _ := e
                have q1 := pop_le ov 8
                have q2 := pop_le w 8
                refine ⟨fun q => absurd q (by rw [v1]; exact nI_pos (by omega)), fun _ => m_bits (by omega) ?_⟩
                show w_X12_bits v _
                rw [v1]
                refine m_bits (by omega) ⟨fun c3 u eu => ?_, fun c3 u eu => ?_⟩
                · have c3 := (nI_leI (by omega) (by omega)).mp c3
                  have eu : u = nI (2 ^ N - (m + 1)) + 1 := eu
                  rw [e1] at eu
                  subst eu
                  rw [if_neg (by omega)] at e
                  have := ih (some w) v (by omega) (fun w' hw' => by have := Option.some.inj hw'; omega) (fun q => absurd q (by simp)) (fun w' hw' => by rw [← Option.some.inj hw']; exact v1) e
                  rw [v1] at this
                  exact this
                · have c3 : ¬ popN w 8 ≤ popN ov 8 := fun q => c3 (nI_le q (by omega))
                  have eu : u = nI (2 ^ N - (m + 1)) + 1 := eu
                  rw [e1] at eu
                  subst eu
                  rw [if_pos (by omega)] at e
                  exact ih (some ov) (nI ov) (by omega) (fun w' hw' => by have := Option.some.inj hw'; omega) (fun q => absurd q (by simp)) (fun w' hw' => by rw [← Option.some.inj hw']) e
            | succ k ih2 =>
              intro i hi
              have hi8 : i < N := by omega
              have ai := ok.2.2 i hi8
              have eWi := n_toInt (n := WH i) (by omega)
              have nxt := ih2 (i + 1) (by omega)
              have eb : bsP (fun i => ¬ secV P N AT WH (2 ^ N - (m + 1)) (AT i) = rsV P (WH i : Int)) (i + 1) = bsP (fun i => ¬ secV P N AT WH (2 ^ N - (m + 1)) (AT i) = rsV P (WH i : Int)) i + ifC (¬ secV P N AT WH (2 ^ N - (m + 1)) (AT i) = rsV P (WH i : Int)) (2 ^ i) 0 := rfl
              rw [eb] at nxt
              apply hY
              unfold w_X12_wrong_b67
              rw [e13, t.1, e8s hs2 (by omega), ix_n (n := 8 * s + i) (by omega), (a.2 i hi8).1, (a.2 i hi8).2]
              rw [t.1] at hin
              refine ⟨hin, fun c => absurd c (nI_ge (by omega) (by omega)), fun _ => ⟨in_n (by omega) (by omega), m_rowComes t a aP ok (by omega) (by omega) ⟨in_n (by omega) (by omega), m_restOf t aP okp ?_⟩⟩⟩
              rw [eWi]
              show (secV P N AT WH (2 ^ N - (m + 1)) (AT i) = rsV P (WH i : Int) → _) ∧ (¬ secV P N AT WH (2 ^ N - (m + 1)) (AT i) = rsV P (WH i : Int) → _)
              refine ⟨fun c u eu => ?_, fun c y ey u eu => ?_⟩
              · have eu : u = nI i + 1 := eu
                rw [← nI_succ] at eu
                subst eu
                rw [ifC_neg (fun q => q c), Nat.add_zero] at nxt
                exact nxt
              · have eu : u = nI i + 1 := eu
                have ey : y = nI (bsP (fun i => ¬ secV P N AT WH (2 ^ N - (m + 1)) (AT i) = rsV P (WH i : Int)) i) ||| jshl 1 (nI i) := ey
                rw [or_nI (bsP_lt _ i) (by omega)] at ey
                rw [← nI_succ] at eu
                subst eu ey
                rw [ifC_pos c] at nxt
                exact nxt
          exact key2 N 0 (by omega)
        · have c : ¬ popN (2 ^ N - (m + 1)) 8 = n := fun q => c (congrArg nI q)
          have eu : u = nI (2 ^ N - (m + 1)) + 1 := eu
          rw [e1] at eu
          subst eu
          rw [if_neg c] at e
          exact ih b v (by omega) hb b0 b1 e
    have := key (2 ^ N - 1) none (-2) (by omega) (fun w hw => absurd hw (by simp)) (fun _ => rfl) (fun w hw => absurd hw (by simp)) rfl
    rw [show 2 ^ N - (2 ^ N - 1) = 1 from by omega] at this
    exact this
  · rw [tL_int] at c; exact c
  · rw [t_le, eN] at c2; omega
