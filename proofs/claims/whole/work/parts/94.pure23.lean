/-! enough -/
theorem bsP_none : ∀ k, bsP (fun _ => False) k = 0
  | 0 => rfl
  | k + 1 => by
    show bsP (fun _ => False) k + ifC False (2 ^ k) 0 = 0
    rw [bsP_none k, ifC_neg id]
theorem and_nI {a b : Nat} (ha : a < 2147483648) (hb : b < 2147483648) : nI a &&& nI b = nI (a &&& b) := by
  apply Int32.toBitVec_inj.mp
  apply BitVec.eq_of_toNat_eq
  have := Nat.and_le_left (n := a) (m := b)
  rw [Int32.toBitVec_and, BitVec.toNat_and, nI_bv ha, nI_bv hb, nI_bv (by omega)]
theorem bits_2 {p : Nat → Prop} {k i j : Nat} (hk : k < 31) (hi : i < k) (hj : j < k) : ((jshr (nI (bsP p k)) (nI i)) &&& (jshr (nI (bsP p k)) (nI j))) &&& 1 = 0 ↔ ¬ (p i ∧ p j) := by
  have hl := bsP_lt p k
  have h2 : 2 ^ k ≤ 2 ^ 30 := Nat.pow_le_pow_right (by decide) (by omega)
  have d1 : bsP p k / 2 ^ i ≤ bsP p k := Nat.div_le_self _ _
  have d2 : bsP p k / 2 ^ j ≤ bsP p k := Nat.div_le_self _ _
  have d3 := Nat.and_le_left (n := bsP p k / 2 ^ i) (m := bsP p k / 2 ^ j)
  rw [jshr_n (by omega) (by omega), jshr_n (by omega) (by omega), and_nI (by omega) (by omega), and1_n (by omega)]
  refine Iff.trans (nI_eq (b := 0) (by omega) (by omega)) ?_
  have bi := bsP_bit p i k
  have bj := bsP_bit p j k
  rw [Nat.testBit_eq_decide_div_mod_eq, decide_eq_true_iff] at bi bj
  have e : (bsP p k / 2 ^ i &&& bsP p k / 2 ^ j) % 2 = 1 ↔ bsP p k / 2 ^ i % 2 = 1 ∧ bsP p k / 2 ^ j % 2 = 1 := by
    have t := Nat.testBit_and (bsP p k / 2 ^ i) (bsP p k / 2 ^ j) 0
    rw [Nat.testBit_zero, Nat.testBit_zero, Nat.testBit_zero] at t
    have t2 := Bool.eq_iff_iff.mp t
    rw [Bool.and_eq_true, decide_eq_true_iff, decide_eq_true_iff, decide_eq_true_iff] at t2
    exact t2
  rw [bi, bj] at e
  refine ⟨fun h q => ?_, fun h => ?_⟩
  · have := e.mpr ⟨⟨hi, q.1⟩, hj, q.2⟩; omega
  · have : ¬ (bsP p k / 2 ^ i &&& bsP p k / 2 ^ j) % 2 = 1 := fun z => h ⟨(e.mp z).1.2, (e.mp z).2.2⟩
    omega
def eP (P : Nat → Bool) (M q : Nat) : Nat := (fstF (atP P q) M (-1) M).toInt.toNat
theorem eP_cn {P : Nat → Bool} {M i : Nat} (hM : M ≤ 10000) (hi : i < M) (hpi : P i = true) : eP P M (cn P i) = i := by
  unfold eP
  rw [fstF_eq hi ⟨hpi, rfl⟩ (fun j hj z => by have := cn_inj z.1 hpi z.2; omega) _ (Nat.le_refl _) (by omega), n_toInt (by omega)]
  rfl
theorem eP_q {P : Nat → Bool} {M q : Nat} (hM : M ≤ 10000) (hq : q < cn P M) : ∃ i, i < M ∧ P i = true ∧ cn P i = q ∧ eP P M q = i := by
  obtain ⟨i, h1, h2, h3⟩ := cn_surj M hq
  exact ⟨i, h1, h2, h3, by rw [← h3]; exact eP_cn hM h1 h2⟩
/-- what the q-th that fits comes to by the b-th number -/
def anF (W G : Nat) (P : Nat → Bool) (M b q : Nat) : Int64 := wcV W G (eP P M q) (sdF b).toInt64
def cAns (h : hp) (n : Nat) (an : Nat → Nat → Int64) : Prop := gI h 71 1 = nI n ∧ ∀ b, b < 19 → ∀ q, q < n → gL h (75 + b) q = an b q
def apB (n : Nat) (an : Nat → Int64) (S : Nat → Prop) : Prop := ∀ i, i < n → ∀ j, j < i → S i → S j → ¬ an i = an j
def tAp (n : Nat) (an : Nat → Nat → Int64) (S : Nat → Prop) : Prop := ∃ b, b < 19 ∧ apB n (an b) S
theorem c_isApartBy {h : hp} {n b : Nat} {an : Nat → Nat → Int64} {S : Nat → Prop} {Q : Int32 → Prop} (a : cAns h n an) (hn : n ≤ 24) (hb : b < 19) (hq1 : apB n (an b) S → Q 1) (hq0 : ¬ apB n (an b) S → Q 0) : w_X1_isApartBy h (nI (bsP S n)) (nI b) Q := by
  unfold w_X1_isApartBy w_X1_isApartBy_0 w_X1_isApartBy_2
  intro X hX
  have key : ∀ m i : Nat, m + i = n → (∀ i', i' < i → ∀ j, j < i' → S i' → S j → ¬ an b i' = an b j) → X (nI i) := by
    intro m
    induction m with
    | zero =>
      intro i hi d
      have ei : i = n := by omega
      subst ei
      apply hX
      unfold w_X1_isApartBy_b2
      rw [a.1]
      exact ⟨fun _ => hq1 d, fun c => absurd (nI_le (Nat.le_refl _) (by omega)) c⟩
    | succ m ih =>
      intro i hi d
      apply hX
      unfold w_X1_isApartBy_b2
      rw [a.1]
      refine ⟨fun c => absurd c (nI_ge (by omega) (by omega)), fun _ => ?_⟩
      unfold w_X1_isApartBy_13
      intro Y hY
      have key2 : ∀ m j : Nat, m + j = i → (∀ j', j' < j → S i → S j' → ¬ an b i = an b j') → Y (nI j) := by
        intro m
        induction m with
        | zero =>
          intro j hj d2
          have ej : j = i := by omega
          subst ej
          apply hY
          refine ⟨fun _ u eu => ?_, fun c => absurd (nI_le (Nat.le_refl _) (by omega)) c⟩
          rw [← nI_succ] at eu
          subst eu
          refine ih (j + 1) (by omega) (fun i' h1 j' h2 => ?_)
          rcases Nat.lt_or_ge i' j with q | q
          · exact d i' q j' h2
          · have e : i' = j := by omega
            subst e
            exact d2 j' h2
        | succ m ih2 =>
          intro j hj d2
          have b2 := bits_2 (p := S) (k := n) (i := i) (j := j) (by omega) (by omega) (by omega)
          have nxt : (S i → S j → ¬ an b i = an b j) → Y (nI (j + 1)) := fun z => ih2 (j + 1) (by omega) (fun j' h1 => by
            rcases Nat.lt_or_ge j' j with q | q
            · exact d2 j' q
            · have e : j' = j := by omega
              subst e
              exact z)
          apply hY
          unfold w_X1_isApartBy_b13
          rw [b2, ix_n (n := b) (by omega), ix_n (n := i) (by omega), ix_n (n := j) (by omega), a.2 b hb i (by omega), a.2 b hb j (by omega)]
          refine ⟨fun c => absurd c (nI_ge (by omega) (by omega)), fun _ => ⟨fun c u eu => ?_, fun c => ⟨in_n hb (by omega), in_n (by omega) (by omega), in_n hb (by omega), in_n (by omega) (by omega), fun c2 u eu => ?_, fun c2 => hq0 (fun q => ?_)⟩⟩⟩
          · rw [← nI_succ] at eu
            subst eu
            exact nxt (fun s1 s2 => absurd ⟨s1, s2⟩ c)
          · rw [← nI_succ] at eu
            subst eu
            exact nxt (fun _ _ => c2)
          · have c := Classical.not_not.mp c
            exact q i (by omega) j (by omega) c.1 c.2 c2
      exact key2 i 0 (by omega) (fun j' h => by omega)
  exact key n 0 (by omega) (fun i' h => by omega)
theorem c_isTold {h : hp} {n : Nat} {an : Nat → Nat → Int64} {S : Nat → Prop} {Q : Int32 → Prop} (a : cAns h n an) (hn : n ≤ 24) (hq1 : tAp n an S → Q 1) (hq0 : ¬ tAp n an S → Q 0) : w_X1_isToldApart h (nI (bsP S n)) Q := by
  unfold w_X1_isToldApart w_X1_isToldApart_0 w_X1_isToldApart_2
  intro X hX
  have key : ∀ m b : Nat, m + b = 19 → (∀ b', b' < b → ¬ apB n (an b') S) → X (nI b) := by
    intro m
    induction m with
    | zero =>
      intro b hb d
      have eb : b = 19 := by omega
      subst eb
      apply hX
      exact ⟨fun _ => hq0 (fun ⟨b', h1, h2⟩ => d b' h1 h2), fun c => absurd (show (19 : Int32) ≤ nI 19 by decide) c⟩
    | succ m ih =>
      intro b hb d
      apply hX
      refine ⟨fun c => absurd c (nI_ge (b := 19) (by omega) (by omega)), fun _ => c_isApartBy a hn (by omega) (fun z => ⟨fun c => absurd c (by decide), fun _ => hq1 ⟨b, by omega, z⟩⟩) (fun z => ⟨fun _ u eu => ?_, fun c => absurd rfl c⟩)⟩
      rw [← nI_succ] at eu
      subst eu
      refine ih (b + 1) (by omega) (fun b' h1 => ?_)
      rcases Nat.lt_or_ge b' b with q | q
      · exact d b' q
      · rw [show b' = b from by omega]; exact z
  exact key 19 0 (by omega) (fun b' h => by omega)
theorem c_groupOf {h : hp} {n b one : Nat} {an : Nat → Nat → Int64} {Q : Int32 → Prop} (a : cAns h n an) (hn : n ≤ 24) (hb : b < 19) (ho : one < n) (hq1 : (∀ i, i < one → ¬ an b i = an b one) → Q (nI (bsP (fun i => an b i = an b one) n))) (hq0 : ∀ i, i < one → an b i = an b one → Q (nI (bsP (fun _ => False) n))) : w_X1_groupOf h (nI one) (nI b) Q := by
  unfold w_X1_groupOf w_X1_groupOf_0 w_X1_groupOf_5
  intro X hX
  have key : ∀ m i : Nat, m + i = n → (∀ i', i' < i → i' < one → ¬ an b i' = an b one) → X (nI (bsP (fun i => an b i = an b one) i), nI i) := by
    intro m
    induction m with
    | zero =>
      intro i hi d
      have ei : i = n := by omega
      subst ei
      apply hX
      unfold w_X1_groupOf_b5
      rw [a.1]
      exact ⟨fun _ => hq1 (fun i' h1 => d i' (by omega) h1), fun c => absurd (nI_le (Nat.le_refl _) (by omega)) c⟩
    | succ m ih =>
      intro i hi d
      have nxt := ih (i + 1) (by omega)
      have eb : bsP (fun i => an b i = an b one) (i + 1) = bsP (fun i => an b i = an b one) i + ifC (an b i = an b one) (2 ^ i) 0 := rfl
      rw [eb] at nxt
      have in1 : vp_in (nI b) 19 := in_n hb (by omega)
      apply hX
      unfold w_X1_groupOf_b5
      rw [a.1, ix_n (n := b) (by omega), ix_n (n := i) (by omega), ix_n (n := one) (by omega), a.2 b hb i (by omega), a.2 b hb one ho]
      refine ⟨fun c => absurd c (nI_ge (by omega) (by omega)), fun _ => ⟨in1, in_n (by omega) (by omega), in1, in_n (by omega) (by omega), fun c u eu => ?_, fun c => ⟨fun c2 y ey u eu => ?_, fun c2 => ?_⟩⟩⟩
      · rw [← nI_succ] at eu
        subst eu
        rw [ifC_neg c, Nat.add_zero] at nxt
        refine nxt (fun i' h1 h2 => ?_)
        rcases Nat.lt_or_ge i' i with q | q
        · exact d i' q h2
        · rw [show i' = i from by omega]; exact c
      · have c2 := (nI_leI (by omega) (by omega)).mp c2
        have ey : y = nI (bsP (fun i => an b i = an b one) i) ||| jshl 1 (nI i) := ey
        rw [or_nI (bsP_lt _ i) (by omega)] at ey
        rw [← nI_succ] at eu
        subst eu ey
        rw [ifC_pos c] at nxt
        exact nxt (fun i' h1 h2 => d i' (by omega) h2)
      · have c2 : ¬ one ≤ i := fun q => c2 (nI_le q (by omega))
        have := hq0 i (by omega) c
        rw [bsP_none] at this
        exact this
  exact key n 0 (by omega) (fun i' h => by omega)
theorem c_fillAnswers {h : hp} {W G : Nat} {P : Nat → Bool} {Q : hp → Prop} (a : cWld h W G) (ok : okW W G) (fi : cFit h P ((G + 1) ^ W)) (hn : cn P ((G + 1) ^ W) ≤ 24) (hq : ∀ h1, eqE cScr h h1 → cAns h1 (cn P ((G + 1) ^ W)) (anF W G P ((G + 1) ^ W)) → Q h1) : w_X1_fillAnswers h Q := by
  obtain ⟨o1, o2, o3, o4⟩ := id ok
  have hM := pow_W (G := G) (j := W) o4 o2
  unfold w_X1_fillAnswers w_X1_fillAnswers_0 w_X1_fillAnswers_2
  intro X hX
  have key : ∀ (m b : Nat) (g : hp), m + b = 19 → eqE cScr h g → cFit g P ((G + 1) ^ W) → (∀ b', b' < b → ∀ q, q < cn P ((G + 1) ^ W) → gL g (75 + b') q = anF W G P ((G + 1) ^ W) b' q) → X (nI b, g) := by
    intro m
    induction m with
    | zero =>
      intro b g hb xg fg vg
      have eb : b = 19 := by omega
      subst eb
      apply hX
      exact ⟨fun _ => hq g xg ⟨fg.1, vg⟩, fun c => absurd (show (19 : Int32) ≤ nI 19 by decide) c⟩
    | succ m ih =>
      intro b g hb xg fg vg
      apply hX
      refine ⟨fun c => absurd c (nI_ge (b := 19) (by omega) (by omega)), fun _ => c_comeBy (cWld_e xg a) ok (fun h2 x2 v2 => ?_)⟩
      have f2 := cFit_v x2 fg
      have v2 : cVal h2 W G (sdF b).toInt64 := v2
      have vg2 : ∀ b', b' < b → ∀ q, q < cn P ((G + 1) ^ W) → gL h2 (75 + b') q = anF W G P ((G + 1) ^ W) b' q := fun b' h1 q h2' => by rw [eqE_L x2 (by unfold vScr; omega)]; exact vg b' h1 q h2'
      have xg2 := eqE_trans xg (eqE_w vScr_c x2)
      show w_X1_fillAnswers_22 Q X (nI b) 0 h2
      unfold w_X1_fillAnswers_22
      intro Y hY
      have key2 : ∀ (m q : Nat) (g : hp), m + q = cn P ((G + 1) ^ W) → eqE cScr h g → cFit g P ((G + 1) ^ W) → cVal g W G (sdF b).toInt64 → (∀ b', b' < b → ∀ q, q < cn P ((G + 1) ^ W) → gL g (75 + b') q = anF W G P ((G + 1) ^ W) b' q) → (∀ q', q' < q → gL g (75 + b) q' = anF W G P ((G + 1) ^ W) b q') → Y (nI q, g) := by
        intro m
        induction m with
        | zero =>
          intro q g hq' xg fg vl vg vb
          have eq' : q = cn P ((G + 1) ^ W) := by omega
          apply hY
          unfold w_X1_fillAnswers_b22
          rw [fg.1]
          refine ⟨fun _ u eu => ?_, fun c => absurd ?_ c⟩
          · rw [← nI_succ] at eu
            subst eu
            refine ih (b + 1) g (by omega) xg fg (fun b' h1 q' h2 => ?_)
            rcases Nat.lt_or_ge b' b with z | z
            · exact vg b' z q' h2
            · have e : b' = b := by omega
              subst e
              exact vb q' (by omega)
          · show nI (cn P ((G + 1) ^ W)) ≤ nI q
            rw [eq']
            exact nI_le (Nat.le_refl _) (by omega)
        | succ m ih2 =>
          intro q g hq' xg fg vl vg vb
          obtain ⟨i, hi, hpi, ec, ee⟩ := eP_q (P := P) (q := q) hM (by omega)
          have g72 : gI g 72 q = nI i := by rw [← ec]; exact fg.2 i hi hpi
          apply hY
          unfold w_X1_fillAnswers_b22
          rw [fg.1, ix_n (n := b) (by omega), ix_n (n := q) (by omega), g72, ix_n (n := i) (by omega), vl i hi]
          refine ⟨fun c => absurd c (nI_ge (by omega) (by omega)), fun _ => ⟨in_n (by omega) (by omega), in_n (by omega) (by omega), in_n (by omega) (by omega), in_n (by omega) (by omega), fun h6 e6 u eu => ?_⟩⟩
          rw [← nI_succ] at eu
          subst eu
          refine ih2 (q + 1) h6 (by omega) ?_ ⟨?_, fun i hi hpi => ?_⟩ (fun i hi => ?_) (fun b' h1 q' h2 => ?_) (fun q' h1 => ?_)
          · rw [e6]; exact eqE_sL xg (by unfold cScr; omega)
          · rw [e6]; exact fg.1
          · rw [e6]; exact fg.2 i hi hpi
          · rw [e6, gL_o _ _ (by omega)]; exact vl i hi
          · rw [e6, gL_o _ _ (by omega)]; exact vg b' h1 q' h2
          · by_cases z : q' = q
            · subst z
              rw [e6, gL_at]
              unfold anF
              rw [ee]
            · rw [e6, gL_k _ _ z]
              exact vb q' (by omega)
      exact key2 (cn P ((G + 1) ^ W)) 0 h2 (by omega) xg2 f2 v2 vg2 (fun q' h => by omega)
  exact key 19 0 h (by omega) (eqE_refl h) fi (fun b' h => by omega)
def grAp (n : Nat) (an : Nat → Nat → Int64) (b : Nat) : Prop := ∀ i, i < n → tAp n an (fun j => an b j = an b i)
noncomputable def enoughV (W G : Nat) (P : Nat → Bool) (M : Nat) : Int32 :=
  if 24 < cn P M then -2 else if cn P M ≤ 1 then 0 else ifC (tAp (cn P M) (anF W G P M) (fun _ => True)) 1 (ifC (∃ b, b < 19 ∧ grAp (cn P M) (anF W G P M) b) 2 3)
theorem c_areGroups {h : hp} {n b : Nat} {an : Nat → Nat → Int64} {Q : Int32 → Prop} (a : cAns h n an) (hn : n ≤ 24) (hb : b < 19) (hq1 : grAp n an b → Q 1) (hq0 : ¬ grAp n an b → Q 0) : w_X1_areGroupsToldApart h (nI b) Q := by
  unfold w_X1_areGroupsToldApart w_X1_areGroupsToldApart_0 w_X1_areGroupsToldApart_2
  intro X hX
  have key : ∀ m i : Nat, m + i = n → (∀ i', i' < i → tAp n an (fun j => an b j = an b i')) → X (nI i) := by
    intro m
    induction m with
    | zero =>
      intro i hi d
      have ei : i = n := by omega
      subst ei
      apply hX
      unfold w_X1_areGroupsToldApart_b2
      rw [a.1]
      exact ⟨fun _ => hq1 d, fun c => absurd (nI_le (Nat.le_refl _) (by omega)) c⟩
    | succ m ih =>
      intro i hi d
      have nxt : tAp n an (fun j => an b j = an b i) → X (nI (i + 1)) := fun z => ih (i + 1) (by omega) (fun i' h1 => by
        rcases Nat.lt_or_ge i' i with q | q
        · exact d i' q
        · rw [show i' = i from by omega]; exact z)
      apply hX
      unfold w_X1_areGroupsToldApart_b2
      rw [a.1]
      refine ⟨fun c => absurd c (nI_ge (by omega) (by omega)), fun _ => c_groupOf a hn hb (by omega) (fun _ => ?_) (fun i' h1 h2 => ?_)⟩
      · refine c_isTold a hn (fun z => ⟨fun _ u eu => ?_, fun c => absurd c (by decide)⟩) (fun z => ⟨fun c => absurd rfl c, fun _ => hq0 (fun w => z (w i (by omega)))⟩)
        rw [← nI_succ] at eu
        subst eu
        exact nxt z
      · refine c_isTold a hn (fun z => ⟨fun _ u eu => ?_, fun c => absurd c (by decide)⟩) (fun z => absurd ⟨0, by omega, fun _ _ _ _ q => absurd q id⟩ z)
        rw [← nI_succ] at eu
        subst eu
        have := d i' h1
        rw [h2] at this
        exact nxt this
  exact key n 0 (by omega) (fun i' h => by omega)
theorem c_enough {h : hp} {W G D : Nat} {A : Nat → Int32} {B : Nat → Int64} {k w s : Int32} {Q : Int32 → hp → Prop} (a : cWld h W G) (nz : cNz h W G) (ok : okW W G) (d : cTold 51 h D A B) (hD : D ≤ 20) (hq1 : ∀ h1, isC D k w s → eqE cScr h h1 → Q (enoughV W G (fitX W G A B k w s) ((G + 1) ^ W)) h1) (hq0 : ¬ isC D k w s → Q (-1) h) : w_X11_enough h k w s Q := by
  obtain ⟨o1, o2, o3, o4⟩ := id ok
  have hM := pow_W (G := G) (j := W) o4 o2
  unfold w_X11_enough w_X11_enough_0
  refine c_choose a nz ok d hD (fun h1 hc x1 f1 => ⟨fun q => absurd q (by decide), fun _ => ?_⟩) (fun hc => ⟨fun _ => hq0 hc, fun q => absurd rfl q⟩)
  have hq := fun h2 (e : eqE cScr h h2) => hq1 h2 hc e
  have a1 := cWld_e x1 a
  generalize fitX W G A B k w s = P at f1 hq
  have hcn := cn_le P ((G + 1) ^ W)
  unfold enoughV at hq
  unfold w_X1_enoughQuestions w_X1_enoughQuestions_0
  rw [f1.1]
  refine ⟨fun c => ⟨fun c2 => ?_, fun c2 => ?_⟩, fun c => ?_⟩
  · have c := (nI_leI (b := 24) (by omega) (by omega)).mp c
    have c2 := (nI_ltI (a := 1) (by omega) (by omega)).mp c2
    rw [if_neg (by omega), if_neg (by omega)] at hq
    refine c_fillAnswers a1 ok f1 c (fun h3 x3 a3 => ?_)
    have x13 := eqE_trans x1 x3
    have hq := hq h3 x13
    have ha := bsP_all (cn P ((G + 1) ^ W))
    have h2 : 2 ^ cn P ((G + 1) ^ W) ≤ 2 ^ 24 := Nat.pow_le_pow_right (by decide) c
    rw [a3.1, shl1 _ (by omega), ← ha, nI_pred]
    refine c_isTold a3 c (fun z => ⟨fun q => absurd q (by decide), fun _ => ?_⟩) (fun z => ⟨fun _ => ?_, fun q => absurd rfl q⟩)
    · rw [ifC_pos z] at hq
      exact hq
    · rw [ifC_neg z] at hq
      unfold w_X1_enoughQuestions_45
      intro X hX
      have key : ∀ m b : Nat, m + b = 19 → (∀ b', b' < b → ¬ grAp (cn P ((G + 1) ^ W)) (anF W G P ((G + 1) ^ W)) b') → X (nI b) := by
        intro m
        induction m with
        | zero =>
          intro b hb dd
          have eb : b = 19 := by omega
          subst eb
          apply hX
          refine ⟨fun _ => ?_, fun c => absurd (show (19 : Int32) ≤ nI 19 by decide) c⟩
          rw [ifC_neg (fun ⟨b, h1, h2⟩ => dd b h1 h2)] at hq
          exact hq
        | succ m ih =>
          intro b hb dd
          apply hX
          refine ⟨fun c => absurd c (nI_ge (b := 19) (by omega) (by omega)), fun _ => c_areGroups a3 c (by omega) (fun z => ⟨fun q => absurd q (by decide), fun _ => ?_⟩) (fun z => ⟨fun _ u eu => ?_, fun q => absurd rfl q⟩)⟩
          · rw [ifC_pos ⟨b, by omega, z⟩] at hq
            exact hq
          · rw [← nI_succ] at eu
            subst eu
            refine ih (b + 1) (by omega) (fun b' h1 => ?_)
            rcases Nat.lt_or_ge b' b with q | q
            · exact dd b' q
            · rw [show b' = b from by omega]; exact z
      exact key 19 0 (by omega) (fun b' h => by omega)
  · have c := (nI_leI (b := 24) (by omega) (by omega)).mp c
    have c2 : ¬ 1 < cn P ((G + 1) ^ W) := fun q => c2 (nI_lt (a := 1) q (by omega))
    rw [if_neg (by omega), if_pos (by omega)] at hq
    exact hq h1 x1
  · have c : ¬ cn P ((G + 1) ^ W) ≤ 24 := fun q => c (nI_le (b := 24) q (by omega))
    rw [if_pos (by omega)] at hq
    exact hq h1 x1
/-! the reference -/
def mLk (h : hp) (n : Nat) (e : Nat → Nat) (S : Nat → Prop) : Prop := (∀ q, q < n → gI h 41 q = nI (e q) ∧ e q < 10000) ∧ ∀ q, q < n → (S q ∧ gI h 42 q = 1) ∨ (¬ S q ∧ gI h 42 q = 0)
theorem m_oneEnough {h : hp} {v W G n : Nat} {e : Nat → Nat} {S : Nat → Prop} {Q : Int32 → Prop} (t : mAt h v) (a : mWld v h W G) (ok : okW W G) (hn : n ≤ 24) (l : mLk h n e S) (hq1 : tAp n (fun b q => wcV W G (e q) (sdF b).toInt64) S → Q 1) (hq0 : ¬ tAp n (fun b q => wcV W G (e q) (sdF b).toInt64) S → Q 0) : w_X12_isOneEnough h (nI n) Q := by
  have e10 : (10 : Int32).toInt = 10 := rfl
  unfold w_X12_isOneEnough w_X12_isOneEnough_0 w_X12_isOneEnough_3
  intro X hX
  have key : ∀ m b : Nat, m + b = 19 → (∀ b', b' < b → ¬ apB n (fun q => wcV W G (e q) (sdF b').toInt64) S) → X (sdF b) := by
    intro m
    induction m with
    | zero =>
      intro b hb d
      have eb : b = 19 := by omega
      subst eb
      apply hX
      exact ⟨fun _ => hq0 (fun ⟨b', h1, h2⟩ => d b' h1 h2), fun c => absurd (show (10 : Int32) ≤ sdF 19 by decide) c⟩
    | succ m ih =>
      intro b hb d
      have hs := sdF_in (b := b) (by omega)
      apply hX
      refine ⟨fun c => ?_, fun _ => ?_⟩
      · rw [t_le, hs, e10] at c
        omega
      -- behind all pairs
      have fin1 : apB n (fun q => wcV W G (e q) (sdF b).toInt64) S → w_X12_isOneEnough_102 Q X (nI n) (sdF b) 1 h := fun z => ⟨fun c => absurd c (by decide), fun _ => hq1 ⟨b, by omega, z⟩⟩
      have fin0 : ¬ apB n (fun q => wcV W G (e q) (sdF b).toInt64) S → w_X12_isOneEnough_102 Q X (nI n) (sdF b) 0 h := fun z => ⟨fun _ u eu => by
        rw [sdF_s (by omega)] at eu
        subst eu
        refine ih (b + 1) (by omega) (fun b' h1 => ?_)
        rcases Nat.lt_or_ge b' b with q | q
        · exact d b' q
        · rw [show b' = b from by omega]; exact z, fun c => absurd rfl c⟩
      unfold w_X12_isOneEnough_14
      intro Y hY
      have bad : ¬ apB n (fun q => wcV W G (e q) (sdF b).toInt64) S → ∀ i, Y (0, i) := fun z i => by
        apply hY
        exact ⟨fun _ => fin0 z, fun _ => ⟨fun _ => fin0 z, fun c => absurd rfl c⟩⟩
      have key2 : ∀ m i : Nat, m + i = n → (∀ i', i' < i → ∀ j, j < i' → S i' → S j → ¬ wcV W G (e i') (sdF b).toInt64 = wcV W G (e j) (sdF b).toInt64) → Y (1, nI i) := by
        intro m
        induction m with
        | zero =>
          intro i hi dd
          have ei : i = n := by omega
          subst ei
          apply hY
          exact ⟨fun _ => fin1 dd, fun c => absurd (nI_le (Nat.le_refl _) (by omega)) c⟩
        | succ m ih2 =>
          intro i hi dd
          apply hY
          refine ⟨fun c => absurd c (nI_ge (by omega) (by omega)), fun _ => ⟨fun c => absurd c (show ¬ (1 : Int32) = 0 by decide), fun _ => ?_⟩⟩
          show w_X12_isOneEnough_27 Q X Y (nI n) (sdF b) (nI i) h 1 0
          unfold w_X12_isOneEnough_27
          intro Z hZ
          have badZ : ¬ apB n (fun q => wcV W G (e q) (sdF b).toInt64) S → ∀ j, Z (0, j) := fun z j => by
            apply hZ
            exact ⟨fun _ u eu => bad z u, fun _ => ⟨fun _ u eu => bad z u, fun c => absurd rfl c⟩⟩
          have key3 : ∀ m j : Nat, m + j = i → (∀ j', j' < j → S i → S j' → ¬ wcV W G (e i) (sdF b).toInt64 = wcV W G (e j') (sdF b).toInt64) → Z (1, nI j) := by
            intro m
            induction m with
            | zero =>
              intro j hj d2
              have ej : j = i := by omega
              subst ej
              apply hZ
              refine ⟨fun _ u eu => ?_, fun c => absurd (nI_le (Nat.le_refl _) (by omega)) c⟩
              rw [← nI_succ] at eu
              subst eu
              refine ih2 (j + 1) (by omega) (fun i' h1 j' h2 => ?_)
              rcases Nat.lt_or_ge i' j with q | q
              · exact dd i' q j' h2
              · have e : i' = j := by omega
                subst e
                exact d2 j' h2
            | succ m ih3 =>
              intro j hj d2
              have nxt : (S i → S j → ¬ wcV W G (e i) (sdF b).toInt64 = wcV W G (e j) (sdF b).toInt64) → Z (1, nI (j + 1)) := fun z => ih3 (j + 1) (by omega) (fun j' h1 => by
                rcases Nat.lt_or_ge j' j with q | q
                · exact d2 j' q
                · have e : j' = j := by omega
                  subst e
                  exact z)
              obtain ⟨li1, li2⟩ := l.1 i (by omega)
              obtain ⟨lj1, lj2⟩ := l.1 j (by omega)
              have in1 : vp_in (nI i) 24 := in_n (by omega) (by omega)
              have in2 : vp_in (nI j) 24 := in_n (by omega) (by omega)
              apply hZ
              unfold w_X12_isOneEnough_b27
              rw [ix_n (n := i) (by omega), ix_n (n := j) (by omega), li1, lj1]
              refine ⟨fun c => absurd c (nI_ge (by omega) (by omega)), fun _ => ⟨fun c => absurd c (show ¬ (1 : Int32) = 0 by decide), fun _ => ⟨in1, fun c u eu => ?_, fun c => ⟨in2, fun c2 u eu => ?_, fun c2 => ⟨in1, m_worldComes t a ok (by omega) ⟨in2, m_worldComes t a ok (by omega) ⟨fun c3 u eu => ?_, fun c3 u eu => ?_⟩⟩⟩⟩⟩⟩⟩
              · rw [← nI_succ] at eu
                subst eu
                refine nxt (fun s1 _ => ?_)
                rcases l.2 i (by omega) with q | q
                · rw [q.2] at c; exact absurd c (by decide)
                · exact absurd s1 q.1
              · rw [← nI_succ] at eu
                subst eu
                refine nxt (fun _ s2 => ?_)
                rcases l.2 j (by omega) with q | q
                · rw [q.2] at c2; exact absurd c2 (by decide)
                · exact absurd s2 q.1
              · rw [← nI_succ] at eu
                subst eu
                exact nxt (fun _ _ => c3)
              · have si : S i := by
                  rcases l.2 i (by omega) with q | q
                  · exact q.1
                  · exact absurd q.2 c
                have sj : S j := by
                  rcases l.2 j (by omega) with q | q
                  · exact q.1
                  · exact absurd q.2 c2
                exact badZ (fun z => z i (by omega) j (by omega) si sj c3) u
          exact key3 i 0 (by omega) (fun j' h => by omega)
      exact key2 n 0 (by omega) (fun i' h => by omega)
  have e0 : sdF 0 = -9 := by decide
  have := key 19 0 (by omega) (fun b' h => by omega)
  rw [e0] at this
  exact this
theorem m_twoEnough {h : hp} {v W G n : Nat} {e : Nat → Nat} {S : Nat → Prop} {Q : Int32 → hp → Prop} (t : mAt h v) (a : mWld v h W G) (ok : okW W G) (hn : n ≤ 24) (l : mLk h n e S) (hq1 : ∀ h1, (∃ b, b < 19 ∧ grAp n (fun b q => wcV W G (e q) (sdF b).toInt64) b) → eqE mScr h h1 → Q 1 h1) (hq0 : ∀ h1, ¬ (∃ b, b < 19 ∧ grAp n (fun b q => wcV W G (e q) (sdF b).toInt64) b) → eqE mScr h h1 → Q 0 h1) : w_X12_areTwoEnough h (nI n) Q := by
  have e10 : (10 : Int32).toInt = 10 := rfl
  unfold w_X12_areTwoEnough w_X12_areTwoEnough_0 w_X12_areTwoEnough_3
  intro X hX
  have l1 := l.1
  have key : ∀ (m b : Nat) (g : hp), m + b = 19 → eqE mScr h g → (∀ q, q < n → gI g 41 q = nI (e q)) → (∀ b', b' < b → ¬ grAp n (fun b q => wcV W G (e q) (sdF b).toInt64) b') → X (sdF b, g) := by
    intro m
    induction m with
    | zero =>
      intro b g hb xg lg d
      have eb : b = 19 := by omega
      subst eb
      apply hX
      exact ⟨fun _ => hq0 g (fun ⟨b', h1, h2⟩ => d b' h1 h2) xg, fun c => absurd (show (10 : Int32) ≤ sdF 19 by decide) c⟩
    | succ m ih =>
      intro b g hb xg lg d
      have hs := sdF_in (b := b) (by omega)
      apply hX
      refine ⟨fun c => ?_, fun _ => ?_⟩
      · have c : (10 : Int32) ≤ sdF b := c
        rw [t_le, hs, e10] at c
        omega
      have fin1 : ∀ g, eqE mScr h g → grAp n (fun b q => wcV W G (e q) (sdF b).toInt64) b → w_X12_areTwoEnough_97 Q X (nI n) (sdF b) 1 g := fun g xg z => ⟨fun c => absurd c (by decide), fun _ => hq1 g ⟨b, by omega, z⟩ xg⟩
      have fin0 : ∀ g, eqE mScr h g → (∀ q, q < n → gI g 41 q = nI (e q)) → ¬ grAp n (fun b q => wcV W G (e q) (sdF b).toInt64) b → w_X12_areTwoEnough_97 Q X (nI n) (sdF b) 0 g := fun g xg lg z => ⟨fun _ u eu => by
        rw [sdF_s (by omega)] at eu
        subst eu
        refine ih (b + 1) g (by omega) xg lg (fun b' h1 => ?_)
        rcases Nat.lt_or_ge b' b with q | q
        · exact d b' q
        · rw [show b' = b from by omega]; exact z, fun c => absurd rfl c⟩
      show w_X12_areTwoEnough_14 Q X (nI n) (sdF b) 1 0 g
      unfold w_X12_areTwoEnough_14
      intro Y hY
      have bad : ∀ g, eqE mScr h g → (∀ q, q < n → gI g 41 q = nI (e q)) → ¬ grAp n (fun b q => wcV W G (e q) (sdF b).toInt64) b → ∀ i, Y (0, i, g) := fun g xg lg z i => by
        apply hY
        exact ⟨fun _ => fin0 g xg lg z, fun _ => ⟨fun _ => fin0 g xg lg z, fun c => absurd rfl c⟩⟩
      have key2 : ∀ (m i : Nat) (g : hp), m + i = n → eqE mScr h g → (∀ q, q < n → gI g 41 q = nI (e q)) → (∀ i', i' < i → tAp n (fun b q => wcV W G (e q) (sdF b).toInt64) (fun j => wcV W G (e j) (sdF b).toInt64 = wcV W G (e i') (sdF b).toInt64)) → Y (1, nI i, g) := by
        intro m
        induction m with
        | zero =>
          intro i g hi xg lg dd
          have ei : i = n := by omega
          subst ei
          apply hY
          exact ⟨fun _ => fin1 g xg dd, fun c => absurd (nI_le (Nat.le_refl _) (by omega)) c⟩
        | succ m ih2 =>
          intro i g hi xg lg dd
          apply hY
          unfold w_X12_areTwoEnough_b14
          rw [ix_n (n := i) (by omega), lg i (by omega)]
          have hei := (l1 i (by omega)).2
          refine ⟨fun c => absurd c (nI_ge (by omega) (by omega)), fun _ => ⟨fun c => absurd c (show ¬ (1 : Int32) = 0 by decide), fun _ => ⟨in_n (by omega) (by omega), m_worldComes (mAt_e xg t) (mWld_e xg a) ok (by omega) ?_⟩⟩⟩
          show w_X12_areTwoEnough_42 Q X Y (nI n) (sdF b) (nI i) (wcV W G (e i) (sdF b).toInt64) 0 g
          unfold w_X12_areTwoEnough_42
          intro Z hZ
          have key3 : ∀ (m j : Nat) (g : hp), m + j = n → eqE mScr h g → (∀ q, q < n → gI g 41 q = nI (e q)) → (∀ q, q < j → (wcV W G (e q) (sdF b).toInt64 = wcV W G (e i) (sdF b).toInt64 ∧ gI g 42 q = 1) ∨ (¬ wcV W G (e q) (sdF b).toInt64 = wcV W G (e i) (sdF b).toInt64 ∧ gI g 42 q = 0)) → Z (nI j, g) := by
            intro m
            induction m with
            | zero =>
              intro j g hj xg lg kg
              have ej : j = n := by omega
              subst ej
              apply hZ
              refine ⟨fun _ => m_oneEnough (S := fun q => wcV W G (e q) (sdF b).toInt64 = wcV W G (e i) (sdF b).toInt64) (mAt_e xg t) (mWld_e xg a) ok hn ⟨fun q hq => ⟨lg q hq, (l1 q hq).2⟩, kg⟩ (fun z u eu => ?_) (fun z u eu => ?_), fun c => absurd (nI_le (Nat.le_refl _) (by omega)) c⟩
              · rw [← nI_succ] at eu
                subst eu
                refine ih2 (i + 1) g (by omega) xg lg (fun i' h1 => ?_)
                rcases Nat.lt_or_ge i' i with q | q
                · exact dd i' q
                · rw [show i' = i from by omega]; exact z
              · exact bad g xg lg (fun w => z (w i (by omega))) u
            | succ m ih3 =>
              intro j g hj xg lg kg
              have hej := (l1 j (by omega)).2
              apply hZ
              unfold w_X12_areTwoEnough_b42
              rw [ix_n (n := j) (by omega), lg j (by omega)]
              refine ⟨fun c => absurd c (nI_ge (by omega) (by omega)), fun _ => ⟨in_n (by omega) (by omega), m_worldComes (mAt_e xg t) (mWld_e xg a) ok (by omega) ?_⟩⟩
              have put : ∀ r : Int32, jz r = r → ((wcV W G (e j) (sdF b).toInt64 = wcV W G (e i) (sdF b).toInt64 ∧ r = 1) ∨ (¬ wcV W G (e j) (sdF b).toInt64 = wcV W G (e i) (sdF b).toInt64 ∧ r = 0)) → w_X12_areTwoEnough_78 Q X Y Z (nI n) (sdF b) (nI i) (wcV W G (e i) (sdF b).toInt64) (nI j) g r (nI j) := by
                intro r hz hr
                refine ⟨in_n (by omega) (by omega), fun h13 e13 u eu => ?_⟩
                rw [ix_n (by omega), hz] at e13
                rw [← nI_succ] at eu
                subst eu
                refine ih3 (j + 1) h13 (by omega) ?_ (fun q hq => ?_) (fun q hq => ?_)
                · rw [e13]; exact eqE_sI xg (by unfold mScr; omega)
                · rw [e13, gI_o _ _ (by decide)]; exact lg q hq
                · by_cases z : q = j
                  · subst z
                    rw [e13, gI_at]
                    exact hr
                  · rw [e13, gI_k _ _ z]
                    exact kg q (by omega)
              exact ⟨fun c => put 0 (by decide) (Or.inr ⟨c, rfl⟩), fun c => put 1 (by decide) (Or.inl ⟨c, rfl⟩)⟩
          exact key3 n 0 g (by omega) xg lg (fun q h => by omega)
      exact key2 n 0 g (by omega) xg lg (fun i' h => by omega)
  have e0 : sdF 0 = -9 := by decide
  have := key 19 0 h (by omega) (eqE_refl h) (fun q hq => (l1 q hq).1) (fun b' h => by omega)
  rw [e0] at this
  exact this
theorem m_enough {h : hp} {v W G D : Nat} {A : Nat → Int32} {B : Nat → Int64} {k w s : Int32} {Q : Int32 → hp → Prop} (t : mAt h v) (a : mWld v h W G) (ok : okW W G) (d : mTold h D A B) (hD : D ≤ 20) (hq1 : ∀ h1, isC D k w s → eqE mScr h h1 → Q (enoughV W G (fitX W G A B k w s) ((G + 1) ^ W)) h1) (hq0 : ¬ isC D k w s → Q (-1) h) : w_X12_enough h k w s Q := by
  obtain ⟨o1, o2, o3, o4⟩ := id ok
  have hM := pow_W (G := G) (j := W) o4 o2
  unfold w_X12_enough w_X12_enough_0
  refine m_isAsked d hD (fun hc => ⟨fun _ => m_fillsX t a ok d hD hc (fun h1 x1 f1 => ?_), fun q => absurd q (by decide)⟩) (fun hc => ⟨fun q => absurd rfl q, fun _ => hq0 hc⟩)
  have hq := fun h2 (e : eqE mScr h h2) => hq1 h2 hc e
  generalize fitX W G A B k w s = P at f1 hq
  have hcn := cn_le P ((G + 1) ^ W)
  unfold enoughV at hq
  refine ⟨fun c => ⟨fun c2 => ?_, fun c2 => ?_⟩, fun c => ?_⟩
  · have c := (nI_leI (b := 24) (by omega) (by omega)).mp c
    have c2 := (nI_leI (a := 2) (by omega) (by omega)).mp c2
    rw [if_neg (by omega), if_neg (by omega)] at hq
    unfold w_X12_enough_45
    intro X hX
    have wa : ∀ {R : Int32 → Prop} {g : hp}, eqE mScr h g → R (nI ((G + 1) ^ W)) → w_X12_worldAll g R := fun eg hr => m_worldAll (mAt_e eg t) (mWld_e eg a) ok hr
    have tg : ∀ {g : hp}, eqE mScr h g → mAt g v := fun e => mAt_e e t
    have ag : ∀ {g : hp}, eqE mScr h g → mWld v g W G := fun e => mWld_e e a
    generalize hMe : (G + 1) ^ W = M at hM f1 hq wa hcn c c2 hX
    have key : ∀ (n j : Nat) (g : hp), n + j = M → eqE mScr h g → mFit g P M → (∀ q, q < cn P j → gI g 41 q = nI (eP P M q) ∧ gI g 42 q = 1) → X (nI (cn P j), nI j, g) := by
      intro n
      induction n with
      | zero =>
        intro j g hj xg fg lg
        have ej : j = M := by omega
        subst ej
        have lk : mLk g (cn P j) (eP P j) (fun _ => True) := ⟨fun q hq => ⟨(lg q hq).1, by obtain ⟨i, h1, _, _, h4⟩ := eP_q (P := P) hM hq; omega⟩, fun q hq => Or.inl ⟨trivial, (lg q hq).2⟩⟩
        apply hX
        refine wa xg ⟨fun _ => ?_, fun c => absurd (nI_le (Nat.le_refl _) (by omega)) c⟩
        refine m_oneEnough (tg xg) (ag xg) ok c lk (fun z => ⟨fun q => absurd q (by decide), fun _ => ?_⟩) (fun z => ⟨fun _ => ?_, fun q => absurd rfl q⟩)
        · have z : tAp (cn P j) (anF W G P j) (fun _ => True) := z
          have := hq g xg
          rw [ifC_pos z] at this
          exact this
        · have z : ¬ tAp (cn P j) (anF W G P j) (fun _ => True) := z
          refine m_twoEnough (tg xg) (ag xg) ok c lk (fun h2 z2 x2 => ⟨fun q => absurd q (by decide), fun _ => ?_⟩) (fun h2 z2 x2 => ⟨fun _ => ?_, fun q => absurd rfl q⟩)
          · have z2 : ∃ b, b < 19 ∧ grAp (cn P j) (anF W G P j) b := z2
            have := hq h2 (eqE_trans xg x2)
            rw [ifC_neg z, ifC_pos z2] at this
            exact this
          · have z2 : ¬ ∃ b, b < 19 ∧ grAp (cn P j) (anF W G P j) b := z2
            have := hq h2 (eqE_trans xg x2)
            rw [ifC_neg z, ifC_neg z2] at this
            exact this
      | succ n ih =>
        intro j g hj xg fg lg
        have nxt := ih (j + 1)
        apply hX
        unfold w_X12_enough_b45
        rw [ix_n (n := j) (by omega), fg j (by omega)]
        refine wa xg ⟨fun c => absurd c (nI_ge (by omega) (by omega)), fun _ => ⟨in_n (by omega) (by omega), fun c3 => ?_, fun c3 u eu => ?_⟩⟩
        · have pj : P j = true := by
            by_cases z : P j = true
            · exact z
            · rw [if_neg z] at c3; exact absurd rfl c3
          have hl := cn_lt (P := P) (show j < M by omega) pj
          have ec : cn P (j + 1) = cn P j + 1 := by
            show cn P j + _ = _
            rw [if_pos pj]
          have ee := eP_cn hM (show j < M by omega) pj
          rw [ec] at nxt
          have in1 : vp_in (nI (cn P j)) 24 := in_n (by omega) (by omega)
          refine ⟨in1, fun h18 e18 => ⟨in1, fun h19 e19 y ey u eu => ?_⟩⟩
          rw [ix_n (by omega)] at e18 e19
          rw [show jz 1 = 1 from by decide] at e19
          rw [← nI_succ] at ey eu
          subst ey eu
          refine nxt h19 (by omega) ?_ (fun i hi => ?_) (fun q hq => ?_)
          · rw [e19, e18]; exact eqE_sI (eqE_sI xg (by unfold mScr; omega)) (by unfold mScr; omega)
          · rw [e19, gI_o _ _ (by decide), e18, gI_o _ _ (by decide)]; exact fg i hi
          · by_cases z : q = cn P j
            · rw [z, e19, gI_o _ _ (by decide), e18, gI_at, gI_at, ee]
              exact ⟨rfl, rfl⟩
            · rw [e19, gI_o _ _ (by decide), e18, gI_k _ _ z, gI_k _ _ z, gI_o _ _ (by decide)]
              exact lg q (by omega)
        · have pj : ¬ P j = true := fun z => by rw [if_pos z] at c3; exact absurd c3 (by decide)
          have ec : cn P (j + 1) = cn P j := by
            show cn P j + _ = _
            rw [if_neg pj, Nat.add_zero]
          rw [← nI_succ] at eu
          subst eu
          rw [ec] at nxt
          exact nxt g (by omega) xg fg lg
    exact key M 0 h1 (by omega) x1 f1 (fun q h => absurd h (by unfold cn; omega))
  · have c := (nI_leI (b := 24) (by omega) (by omega)).mp c
    have c2 : ¬ 2 ≤ cn P ((G + 1) ^ W) := fun q => c2 (nI_le (a := 2) q (by omega))
    rw [if_neg (by omega), if_pos (by omega)] at hq
    exact hq h1 x1
  · have c : ¬ cn P ((G + 1) ^ W) ≤ 24 := fun q => c (nI_le (b := 24) q (by omega))
    rw [if_pos (by omega)] at hq
    exact hq h1 x1
