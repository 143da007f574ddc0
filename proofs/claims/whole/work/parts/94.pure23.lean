/-! those that fit -/
def cn (P : Nat → Bool) : Nat → Nat
  | 0 => 0
  | i + 1 => cn P i + (if P i = true then 1 else 0)
theorem cn_le (P : Nat → Bool) : ∀ i, cn P i ≤ i
  | 0 => Nat.le_refl 0
  | i + 1 => by
    have := cn_le P i
    unfold cn
    split <;> omega
theorem cn_mono (P : Nat → Bool) {i j : Nat} (h : i ≤ j) : cn P i ≤ cn P j := by
  induction j with
  | zero => rw [show i = 0 from by omega]; exact Nat.le_refl _
  | succ j ih =>
    rcases Nat.lt_or_ge j i with q | q
    · rw [show i = j + 1 from by omega]; exact Nat.le_refl _
    · have := ih q
      show cn P i ≤ cn P j + _
      omega
theorem cn_lt {P : Nat → Bool} {i j : Nat} (h : i < j) (hp : P i = true) : cn P i < cn P j := by
  have := cn_mono P (show i + 1 ≤ j from h)
  have e : cn P (i + 1) = cn P i + 1 := by
    show cn P i + _ = _
    rw [if_pos hp]
  omega
theorem cn_inj {P : Nat → Bool} {i j : Nat} (hi : P i = true) (hj : P j = true) (h : cn P i = cn P j) : i = j := by
  rcases Nat.lt_trichotomy i j with q | q | q
  · have := cn_lt q hi; omega
  · exact q
  · have := cn_lt q hj; omega
theorem cn_surj {P : Nat → Bool} {q : Nat} : ∀ n, q < cn P n → ∃ i, i < n ∧ P i = true ∧ cn P i = q
  | 0, h => absurd h (by unfold cn; omega)
  | n + 1, h => by
    rcases Nat.lt_or_ge q (cn P n) with c | c
    · obtain ⟨i, h1, h2⟩ := cn_surj n c
      exact ⟨i, by omega, h2⟩
    · have h : q < cn P n + (if P n = true then 1 else 0) := h
      by_cases hp : P n = true
      · rw [if_pos hp] at h
        exact ⟨n, Nat.lt_succ_self n, hp, by omega⟩
      · rw [if_neg hp] at h; omega
theorem cn_sub {P P' : Nat → Bool} (h : ∀ i, P' i = true → P i = true) : ∀ i, cn P' i ≤ cn P i
  | 0 => Nat.le_refl 0
  | i + 1 => by
    have := cn_sub h i
    show cn P' i + _ ≤ cn P i + _
    by_cases c : P' i = true
    · rw [if_pos c, if_pos (h i c)]; omega
    · rw [if_neg c]; omega
def wrN (W G : Nat) (A : Nat → Int32) (B : Nat → Int64) : Nat → Nat → Nat
  | 0, _ => 0
  | t + 1, i => wrN W G A B t i + (if wcV W G i (A t).toInt64 = B t then 0 else 1)
theorem wrN_le (W G : Nat) (A : Nat → Int32) (B : Nat → Int64) (i : Nat) : ∀ t, wrN W G A B t i ≤ t
  | 0 => Nat.le_refl 0
  | t + 1 => by
    have := wrN_le W G A B i t
    unfold wrN
    split <;> omega
def fitB (W G s w : Nat) (A : Nat → Int32) (B : Nat → Int64) (t i : Nat) : Bool := decide (nzF G i W ≤ s ∧ wrN W G A B t i ≤ w)
theorem fitB_t {W G s w : Nat} {A : Nat → Int32} {B : Nat → Int64} {t i : Nat} : fitB W G s w A B t i = true ↔ nzF G i W ≤ s ∧ wrN W G A B t i ≤ w := by
  unfold fitB
  exact decide_eq_true_iff
def cFit (h : hp) (P : Nat → Bool) (M : Nat) : Prop := gI h 71 1 = nI (cn P M) ∧ ∀ i, i < M → P i = true → gI h 72 (cn P i) = nI i
def mFit (h : hp) (P : Nat → Bool) (M : Nat) : Prop := ∀ i, i < M → gI h 40 i = if P i = true then 1 else 0
/-- one answer more -/
theorem c_dropWrong {h : hp} {W G s w t : Nat} {A : Nat → Int32} {B : Nat → Int64} {Q : hp → Prop} (ok : okW W G) (hw : w ≤ 20) (ht : t < 20) (vl : cVal h W G (A t).toInt64) (fi : cFit h (fitB W G s w A B t) ((G + 1) ^ W)) (ta : ∀ i, i < (G + 1) ^ W → fitB W G s w A B t i = true → gI h 73 i = nI (wrN W G A B t i)) (hq : ∀ h1, eqE cScr h h1 → cFit h1 (fitB W G s w A B (t + 1)) ((G + 1) ^ W) → (∀ i, i < (G + 1) ^ W → fitB W G s w A B (t + 1) i = true → gI h1 73 i = nI (wrN W G A B (t + 1) i)) → Q h1) : w_X1_dropWrong h (B t) (nI w) Q := by
  obtain ⟨o1, o2, o3, o4⟩ := id ok
  have hM := pow_W (G := G) (j := W) o4 o2
  unfold w_X1_dropWrong w_X1_dropWrong_0 w_X1_dropWrong_6
  intro X hX
  unfold cVal at vl
  generalize (G + 1) ^ W = M at hM vl fi ta hq
  have sub : ∀ i, fitB W G s w A B (t + 1) i = true → fitB W G s w A B t i = true := fun i hi => by
    have := fitB_t.mp hi
    refine fitB_t.mpr ⟨this.1, Nat.le_trans ?_ this.2⟩
    show _ ≤ wrN W G A B t i + _
    omega
  have key : ∀ (n j : Nat) (g : hp), n + j = M → eqE cScr h g → gI g 71 1 = nI (cn (fitB W G s w A B t) M) → (∀ i, i < M → gL g 65 i = wcV W G i (A t).toInt64) → (∀ i, j ≤ i → i < M → fitB W G s w A B t i = true → gI g 72 (cn (fitB W G s w A B t) i) = nI i ∧ gI g 73 i = nI (wrN W G A B t i)) → (∀ i, i < j → fitB W G s w A B (t + 1) i = true → gI g 72 (cn (fitB W G s w A B (t + 1)) i) = nI i ∧ gI g 73 i = nI (wrN W G A B (t + 1) i)) → X (nI (cn (fitB W G s w A B (t + 1)) j), nI (cn (fitB W G s w A B t) j), g) := by
    intro n
    induction n with
    | zero =>
      intro j g hj xg mg vg ug pg
      have ej : j = M := by omega
      subst ej
      have hc := cn_le (fitB W G s w A B t) j
      apply hX
      unfold w_X1_dropWrong_b6
      rw [mg]
      refine ⟨fun _ h2 e2 => ?_, fun c => absurd (nI_le (Nat.le_refl _) (by omega)) c⟩
      have e2 : h2 = sI g 71 1 (nI (cn (fitB W G s w A B (t + 1)) j)) := e2
      subst e2
      refine hq _ (eqE_sI xg (by unfold cScr; omega)) ⟨gI_at _ _ _ _, fun i hi hp => ?_⟩ (fun i hi hp => ?_)
      · rw [gI_o _ _ (by decide)]; exact (pg i hi hp).1
      · rw [gI_o _ _ (by decide)]; exact (pg i hi hp).2
    | succ n ih =>
      intro j g hj xg mg vg ug pg
      by_cases pj : fitB W G s w A B t j = true
      · have hc := cn_le (fitB W G s w A B t) M
        have hlt := cn_lt (P := fitB W G s w A B t) (show j < M by omega) pj
        have hcs := cn_sub sub j
        obtain ⟨u1, u2⟩ := ug j (Nat.le_refl _) (by omega) pj
        have hwr := wrN_le W G A B j t
        have hfit := fitB_t.mp pj
        have in1 : vp_in (nI (cn (fitB W G s w A B t) j)) 10000 := in_n (by omega) (by omega)
        have in2 : vp_in (nI j) 10000 := in_n (by omega) (by omega)
        have ec : cn (fitB W G s w A B t) (j + 1) = cn (fitB W G s w A B t) j + 1 := by
          show cn (fitB W G s w A B t) j + _ = _
          rw [if_pos pj]
        have nxt := ih (j + 1)
        rw [ec] at nxt
        -- behind the tally
        have fin : ∀ (g' : hp), eqE cScr h g' → gI g' 71 1 = nI (cn (fitB W G s w A B t) M) → (∀ i, i < M → gL g' 65 i = wcV W G i (A t).toInt64) → (∀ i, j ≤ i → i < M → fitB W G s w A B t i = true → gI g' 72 (cn (fitB W G s w A B t) i) = nI i) → (∀ i, j < i → i < M → fitB W G s w A B t i = true → gI g' 73 i = nI (wrN W G A B t i)) → (∀ i, i < j → fitB W G s w A B (t + 1) i = true → gI g' 72 (cn (fitB W G s w A B (t + 1)) i) = nI i ∧ gI g' 73 i = nI (wrN W G A B (t + 1) i)) → gI g' 73 j = nI (wrN W G A B (t + 1) j) → w_X1_dropWrong_50 Q X (B t) (nI w) (nI (cn (fitB W G s w A B (t + 1)) j)) (nI (cn (fitB W G s w A B t) j)) (nI j) g' := by
          intro g' xg' mg' vg' ug1 ug2 pg' tj
          have hwr2 := wrN_le W G A B j (t + 1)
          unfold w_X1_dropWrong_50
          rw [ix_n (n := j) (by omega), tj]
          refine ⟨in2, fun c y ey => ?_, fun c => ⟨in_n (by omega) (by omega), fun h8 e8 z ez y ey => ?_⟩⟩
          · have c := (nI_ltI (a := w) (b := wrN W G A B (t + 1) j) (by omega) (by omega)).mp c
            rw [← nI_succ] at ey
            subst ey
            have np : ¬ fitB W G s w A B (t + 1) j = true := fun q => by have := (fitB_t.mp q).2; omega
            have ec2 : cn (fitB W G s w A B (t + 1)) (j + 1) = cn (fitB W G s w A B (t + 1)) j := by
              show cn (fitB W G s w A B (t + 1)) j + _ = _
              rw [if_neg np, Nat.add_zero]
            rw [ec2] at nxt
            refine nxt g' (by omega) xg' mg' vg' (fun i h1 h2 h3 => ⟨ug1 i (by omega) h2 h3, ug2 i (by omega) h2 h3⟩) (fun i h1 h2 => ?_)
            rcases Nat.lt_or_ge i j with q | q
            · exact pg' i q h2
            · exact absurd (by rw [show j = i from by omega]; exact h2) np
          · have c : ¬ w < wrN W G A B (t + 1) j := fun q => c (nI_lt q (by omega))
            have pp : fitB W G s w A B (t + 1) j = true := fitB_t.mpr ⟨hfit.1, by omega⟩
            have ec2 : cn (fitB W G s w A B (t + 1)) (j + 1) = cn (fitB W G s w A B (t + 1)) j + 1 := by
              show cn (fitB W G s w A B (t + 1)) j + _ = _
              rw [if_pos pp]
            rw [ec2] at nxt
            rw [← nI_succ] at ey ez
            rw [ix_n (by omega)] at e8
            subst ey ez
            refine nxt h8 (by omega) ?_ ?_ (fun i hi => ?_) (fun i h1 h2 h3 => ?_) (fun i h1 h2 => ?_)
            · rw [e8]; exact eqE_sI xg' (by unfold cScr; omega)
            · rw [e8, gI_o _ _ (by decide)]; exact mg'
            · rw [e8, gL_sI]; exact vg' i hi
            · have hl := cn_lt (P := fitB W G s w A B t) (show j < i by omega) pj
              rw [e8, gI_k _ _ (by omega), gI_o _ _ (by decide)]
              exact ⟨ug1 i (by omega) h2 h3, ug2 i (by omega) h2 h3⟩
            · rcases Nat.lt_or_ge i j with q | q
              · have hl := cn_lt (P := fitB W G s w A B (t + 1)) q h2
                rw [e8, gI_k _ _ (by omega), gI_o _ _ (by decide)]
                exact pg' i q h2
              · have e : i = j := by omega
                subst e
                rw [e8, gI_at, gI_o _ _ (by decide)]
                exact ⟨rfl, tj⟩
        apply hX
        unfold w_X1_dropWrong_b6
        rw [mg]
        refine ⟨fun c => absurd c (nI_ge (by omega) (by omega)), fun _ => ⟨in1, fun y ey => ?_⟩⟩
        rw [ix_n (by omega), u1] at ey
        subst ey
        rw [ix_n (by omega), vg j (by omega)]
        refine ⟨in2, fun c => ?_, fun c => ⟨in2, in2, fun h5 e5 => ?_⟩⟩
        · refine fin g xg mg vg (fun i h1 h2 h3 => (ug i h1 h2 h3).1) (fun i h1 h2 h3 => (ug i (by omega) h2 h3).2) pg ?_
          rw [u2]
          show nI (wrN W G A B t j) = nI (wrN W G A B t j + _)
          rw [if_pos c, Nat.add_zero]
        · rw [u2, ← nI_succ] at e5
          refine fin h5 ?_ ?_ (fun i hi => ?_) (fun i h1 h2 h3 => ?_) (fun i h1 h2 h3 => ?_) (fun i h1 h2 => ?_) ?_
          · rw [e5]; exact eqE_sI xg (by unfold cScr; omega)
          · rw [e5, gI_o _ _ (by decide)]; exact mg
          · rw [e5, gL_sI]; exact vg i hi
          · rw [e5, gI_o _ _ (by decide)]; exact (ug i h1 h2 h3).1
          · rw [e5, gI_k _ _ (by omega)]; exact (ug i (by omega) h2 h3).2
          · rw [e5, gI_o _ _ (by decide), gI_k _ _ (by omega)]; exact pg i h1 h2
          · rw [e5, gI_at]
            show nI (wrN W G A B t j + 1) = nI (wrN W G A B t j + _)
            rw [if_neg c]
      · have e1 : cn (fitB W G s w A B t) (j + 1) = cn (fitB W G s w A B t) j := by
          show cn (fitB W G s w A B t) j + _ = _
          rw [if_neg pj, Nat.add_zero]
        have np : ¬ fitB W G s w A B (t + 1) j = true := fun q => pj (sub j q)
        have e2 : cn (fitB W G s w A B (t + 1)) (j + 1) = cn (fitB W G s w A B (t + 1)) j := by
          show cn (fitB W G s w A B (t + 1)) j + _ = _
          rw [if_neg np, Nat.add_zero]
        have := ih (j + 1) g (by omega) xg mg vg (fun i h1 h2 h3 => ug i (by omega) h2 h3) (fun i h1 h2 => by
          rcases Nat.lt_or_ge i j with q | q
          · exact pg i q h2
          · exact absurd (by rw [show j = i from by omega]; exact h2) np)
        rw [e1, e2] at this
        exact this
  exact key M 0 h (by omega) (eqE_refl h) fi.1 vl (fun i _ h2 h3 => ⟨fi.2 i h2 h3, ta i h2 h3⟩) (fun i hi => by omega)
theorem c_select {h : hp} {W G s w k D : Nat} {A : Nat → Int32} {B : Nat → Int64} {Q : hp → Prop} (a : cWld h W G) (nz : cNz h W G) (ok : okW W G) (d : cTold 51 h D A B) (hD : D ≤ 20) (hk : k ≤ D) (hw : w ≤ 20) (hs : s ≤ 4) (hq : ∀ h1, eqE cScr h h1 → cFit h1 (fitB W G s w A B k) ((G + 1) ^ W) → Q h1) : w_X1_select 51 h (nI k) (nI w) (nI s) Q := by
  obtain ⟨o1, o2, o3, o4⟩ := id ok
  have hM := pow_W (G := G) (j := W) o4 o2
  unfold w_X1_select w_X1_select_0
  intro h1 e1
  have x1 : eqE cScr h h1 := by rw [e1]; exact eqE_sI (eqE_refl h) (by unfold cScr; omega)
  have m1 : gI h1 71 1 = nI 0 := by rw [e1]; exact gI_at _ _ _ _
  clear e1
  -- the answers
  have ans : ∀ g : hp, eqE cScr h g → cFit g (fitB W G s w A B 0) ((G + 1) ^ W) → (∀ i, i < (G + 1) ^ W → fitB W G s w A B 0 i = true → gI g 73 i = nI (wrN W G A B 0 i)) → w_X1_select_73 51 Q (nI k) (nI w) 0 g := by
    intro g xg fg tg
    unfold w_X1_select_73
    intro X hX
    have key : ∀ (n t : Nat) (g : hp), n + t = k → eqE cScr h g → cFit g (fitB W G s w A B t) ((G + 1) ^ W) → (∀ i, i < (G + 1) ^ W → fitB W G s w A B t i = true → gI g 73 i = nI (wrN W G A B t i)) → X (nI t, g) := by
      intro n
      induction n with
      | zero =>
        intro t g ht xg fg tg
        have et : t = k := by omega
        subst et
        apply hX
        exact ⟨fun _ => hq g xg fg, fun c => absurd (nI_le (Nat.le_refl _) (by omega)) c⟩
      | succ n ih =>
        intro t g ht xg fg tg
        have dg := cTold_e xg d
        have in1 : vp_in (nI t) 20 := in_n (by omega) (by omega)
        apply hX
        unfold w_X1_select_b73
        rw [ix_n (by omega), (dg.2 t (by omega)).1]
        refine ⟨fun c => absurd c (nI_ge (by omega) (by omega)), fun _ => ⟨in1, c_comeBy (cWld_e xg a) ok (fun h10 x10 v10 => ⟨in1, ?_⟩)⟩⟩
        have xc := eqE_w vScr_c x10
        rw [(cTold_e xc dg).2 t (by omega) |>.2]
        refine c_dropWrong (s := s) ok hw (by omega) v10 ⟨?_, fun i hi hp => ?_⟩ (fun i hi hp => ?_) (fun h11 x11 f11 t11 u eu => ?_)
        · rw [eqE_I x10 (by unfold vScr; omega)]; exact fg.1
        · rw [eqE_I x10 (by unfold vScr; omega)]; exact fg.2 i hi hp
        · rw [eqE_I x10 (by unfold vScr; omega)]; exact tg i hi hp
        · rw [← nI_succ] at eu
          subst eu
          exact ih (t + 1) h11 (by omega) (eqE_trans (eqE_trans xg xc) x11) f11 t11
    exact key k 0 g (by omega) xg fg tg
  -- all that have few places
  unfold w_X1_select_8
  intro X hX
  have key : ∀ (n j : Nat) (g : hp), n + j = (G + 1) ^ W → eqE cScr h g → cFit g (fitB W G s w A B 0) j → (∀ i, i < j → fitB W G s w A B 0 i = true → gI g 73 i = 0) → X (nI j, g) := by
    intro n
    induction n with
    | zero =>
      intro j g hj xg fg tg
      have ej : j = (G + 1) ^ W := by omega
      apply hX
      refine ⟨fun _ => ans g xg (by rw [← ej]; exact fg) (by rw [← ej]; exact tg), fun c => absurd ?_ c⟩
      show gI g 64 1 ≤ nI j
      rw [(cWld_e xg a).2.1, ej]
      exact nI_le (Nat.le_refl _) (by omega)
    | succ n ih =>
      intro j g hj xg fg tg
      have hnz := nzF_le G j W
      have hc := cn_le (fitB W G s w A B 0) j
      have in1 : vp_in (nI j) 10000 := in_n (by omega) (by omega)
      apply hX
      unfold w_X1_select_b8
      rw [(cWld_e xg a).2.1, ix_n (n := j) (by omega), cNz_e xg nz j (by omega), fg.1]
      refine ⟨fun c => absurd c (nI_ge (by omega) (by omega)), fun _ => ⟨in1, fun c u eu => ?_, fun c => ⟨in_n (by omega) (by omega), fun h5 e5 => ⟨in1, fun h6 e6 h7 e7 u eu => ?_⟩⟩⟩⟩
      · have c := (nI_ltI (a := s) (b := nzF G j W) (by omega) (by omega)).mp c
        have np : ¬ fitB W G s w A B 0 j = true := fun q => by have := (fitB_t.mp q).1; omega
        rw [← nI_succ] at eu
        subst eu
        refine ih (j + 1) g (by omega) xg ⟨?_, fun i hi hp => ?_⟩ (fun i hi hp => ?_)
        · show _ = nI (cn (fitB W G s w A B 0) j + _)
          rw [if_neg np, Nat.add_zero]; exact fg.1
        · rcases Nat.lt_or_ge i j with q | q
          · exact fg.2 i q hp
          · exact absurd (by rw [show j = i from by omega]; exact hp) np
        · rcases Nat.lt_or_ge i j with q | q
          · exact tg i q hp
          · exact absurd (by rw [show j = i from by omega]; exact hp) np
      · have c : ¬ s < nzF G j W := fun q => c (nI_lt q (by omega))
        have pp : fitB W G s w A B 0 j = true := fitB_t.mpr ⟨by omega, Nat.zero_le _⟩
        rw [ix_n (by omega)] at e5
        have g71 : gI h6 71 1 = nI (cn (fitB W G s w A B 0) j) := by rw [e6, gI_o _ _ (by decide), e5, gI_o _ _ (by decide)]; exact fg.1
        rw [g71, ← nI_succ] at e7
        rw [← nI_succ] at eu
        subst eu
        have xh : eqE cScr h h7 := by rw [e7, e6, e5]; exact eqE_sI (eqE_sI (eqE_sI xg (by unfold cScr; omega)) (by unfold cScr; omega)) (by unfold cScr; omega)
        refine ih (j + 1) h7 (by omega) xh ⟨?_, fun i hi hp => ?_⟩ (fun i hi hp => ?_)
        · show _ = nI (cn (fitB W G s w A B 0) j + _)
          rw [if_pos pp, e7]; exact gI_at _ _ _ _
        · rw [e7, gI_o _ _ (by decide), e6, gI_o _ _ (by decide), e5]
          rcases Nat.lt_or_ge i j with q | q
          · have hl := cn_lt (P := fitB W G s w A B 0) q hp
            rw [gI_k _ _ (by omega)]
            exact fg.2 i q hp
          · rw [show i = j from by omega]
            exact gI_at _ _ _ _
        · rw [e7, gI_o _ _ (by decide), e6]
          rcases Nat.lt_or_ge i j with q | q
          · rw [gI_k _ _ (by omega), e5, gI_o _ _ (by decide)]
            exact tg i q hp
          · rw [show i = j from by omega]
            exact gI_at _ _ _ _
  exact key ((G + 1) ^ W) 0 h1 (by omega) x1 ⟨m1, fun i hi => by omega⟩ (fun i hi => by omega)
abbrev isC (D : Nat) (k w s : Int32) : Prop := (0 ≤ k.toInt ∧ k.toInt ≤ (D : Int)) ∧ (0 ≤ w.toInt ∧ w.toInt ≤ 20) ∧ 0 ≤ s.toInt ∧ s.toInt ≤ 4
/-- the predicate of those that fit -/
abbrev fitX (W G : Nat) (A : Nat → Int32) (B : Nat → Int64) (k w s : Int32) : Nat → Bool := fitB W G s.toInt.toNat w.toInt.toNat A B k.toInt.toNat
theorem c_choose {h : hp} {W G D : Nat} {A : Nat → Int32} {B : Nat → Int64} {k w s : Int32} {Q : Int32 → hp → Prop} (a : cWld h W G) (nz : cNz h W G) (ok : okW W G) (d : cTold 51 h D A B) (hD : D ≤ 20) (hq1 : ∀ h1, isC D k w s → eqE cScr h h1 → cFit h1 (fitX W G A B k w s) ((G + 1) ^ W) → Q 1 h1) (hq0 : ¬ isC D k w s → Q 0 h) : w_X11_choose h k w s Q := by
  unfold w_X11_choose w_X11_choose_0
  have eD := n_toInt (n := D) (by omega)
  refine c_within (fun c1 => ⟨fun q => absurd q (by decide), fun _ => ?_⟩) (fun c1 => ⟨fun _ => hq0 (fun q => c1 ?_), fun q => absurd rfl q⟩)
  · rw [tL_int, tL_int, d.1, eD] at c1
    have c1 : 0 ≤ k.toInt ∧ k.toInt ≤ (D : Int) := c1
    refine c_within (fun c2 => ⟨fun q => absurd q (by decide), fun _ => ?_⟩) (fun c2 => ⟨fun _ => hq0 (fun q => c2 (by rw [tL_int]; exact q.2.1)), fun q => absurd rfl q⟩)
    rw [tL_int] at c2
    have c2 : 0 ≤ w.toInt ∧ w.toInt ≤ 20 := c2
    refine c_within (fun c3 => ⟨fun _ => ?_, fun q => absurd q (by decide)⟩) (fun c3 => ⟨fun q => absurd rfl q, fun _ => hq0 (fun q => c3 (by rw [tL_int]; exact q.2.2))⟩)
    rw [tL_int] at c3
    have c3 : 0 ≤ s.toInt ∧ s.toInt ≤ 4 := c3
    have hq := fun h1 => hq1 h1 ⟨c1, c2, c3⟩
    have hq1 := True.intro
    have hq0 := True.intro
    obtain ⟨ek, hk⟩ := n_of c1.1
    obtain ⟨ew, hw⟩ := n_of c2.1
    obtain ⟨es, hs⟩ := n_of c3.1
    rw [ek, ew, es]
    exact c_select a nz ok d hD (by omega) (by omega) (by omega) hq
  · rw [tL_int, tL_int, d.1, eD]; exact q.1
theorem m_isAsked {h : hp} {D : Nat} {A : Nat → Int32} {B : Nat → Int64} {k w s : Int32} {Q : Int32 → Prop} (d : mTold h D A B) (hD : D ≤ 20) (hq1 : isC D k w s → Q 1) (hq0 : ¬ isC D k w s → Q 0) : w_X12_isAsked h k w s Q := by
  unfold w_X12_isAsked w_X12_isAsked_0
  have eD := n_toInt (n := D) (by omega)
  refine m_in (fun c1 => ⟨fun q => absurd q (by decide), fun _ => ?_⟩) (fun c1 => ⟨fun _ => hq0 (fun q => c1 ?_), fun q => absurd rfl q⟩)
  · rw [tL_int, tL_int, d.1, eD] at c1
    refine m_in (fun c2 => ⟨fun q => absurd q (by decide), fun _ => ?_⟩) (fun c2 => ⟨fun _ => hq0 (fun q => c2 (by rw [tL_int]; exact q.2.1)), fun q => absurd rfl q⟩)
    rw [tL_int] at c2
    refine m_in (fun c3 => ⟨fun q => absurd q (by decide), fun _ => ?_⟩) (fun c3 => ⟨fun _ => hq0 (fun q => c3 (by rw [tL_int]; exact q.2.2)), fun q => absurd rfl q⟩)
    rw [tL_int] at c3
    exact hq1 ⟨c1, c2, c3⟩
  · rw [tL_int, tL_int, d.1, eD]; exact q.1
theorem m_isRight {h : hp} {v W G D i k : Nat} {A : Nat → Int32} {B : Nat → Int64} {Q : Int32 → Prop} (t : mAt h v) (a : mWld v h W G) (ok : okW W G) (d : mTold h D A B) (hD : D ≤ 20) (hi : i < 2147483648) (hk : k < D) (hq1 : wcV W G i (A k).toInt64 = B k → Q 1) (hq0 : ¬ wcV W G i (A k).toInt64 = B k → Q 0) : w_X12_isRight h (nI i) (nI k) Q := by
  unfold w_X12_isRight w_X12_isRight_0
  rw [ix_n (by omega), (d.2 k hk).1]
  refine ⟨in_n (by omega) (by omega), m_worldComes t a ok hi ⟨in_n (by omega) (by omega), ?_⟩⟩
  rw [(d.2 k hk).2]
  exact ⟨fun c => hq0 c, fun c => hq1 c⟩
theorem m_isFit {h : hp} {v W G D i k w s : Nat} {A : Nat → Int32} {B : Nat → Int64} {Q : Int32 → Prop} (t : mAt h v) (a : mWld v h W G) (ok : okW W G) (d : mTold h D A B) (hD : D ≤ 20) (hi : i < 2147483648) (hk : k ≤ D) (hw : w ≤ 20) (hs : s ≤ 4) (hq1 : fitB W G s w A B k i = true → Q 1) (hq0 : ¬ fitB W G s w A B k i = true → Q 0) : w_X12_isFit h (nI i) (nI k) (nI w) (nI s) Q := by
  unfold w_X12_isFit w_X12_isFit_0
  have hnz := nzF_le G i W
  have hW4 := ok.2.1
  refine m_fullPlaces t a ok hi ⟨fun c => ?_, fun c => hq0 (fun q => c (nI_le (fitB_t.mp q).1 (by omega)))⟩
  have c := (nI_leI (a := nzF G i W) (b := s) (by omega) (by omega)).mp c
  unfold w_X12_isFit_18
  intro X hX
  have key : ∀ n t' : Nat, n + t' = k → X (nI (wrN W G A B t' i), nI t') := by
    intro n
    induction n with
    | zero =>
      intro t' ht
      have et : t' = k := by omega
      subst et
      have hwr := wrN_le W G A B i t'
      apply hX
      refine ⟨fun _ => ⟨fun c2 => hq0 (fun q => ?_), fun c2 => hq1 (fitB_t.mpr ⟨c, ?_⟩)⟩, fun c2 => absurd (nI_le (Nat.le_refl _) (by omega)) c2⟩
      · have c2 := (nI_ltI (a := w) (b := wrN W G A B t' i) (by omega) (by omega)).mp c2
        have := (fitB_t.mp q).2
        omega
      · have : ¬ w < wrN W G A B t' i := fun q => c2 (nI_lt q (by omega))
        omega
    | succ n ih =>
      intro t' ht
      have nxt := ih (t' + 1) (by omega)
      apply hX
      refine ⟨fun c2 => absurd c2 (nI_ge (by omega) (by omega)), fun _ => m_isRight t a ok d hD hi (by omega) (fun c2 => ⟨fun _ u eu => ?_, fun q => absurd q (by decide)⟩) (fun c2 => ⟨fun q => absurd rfl q, fun _ y ey u eu => ?_⟩)⟩
      · have eu : u = nI t' + 1 := eu
        rw [← nI_succ] at eu
        subst eu
        unfold wrN at nxt
        rw [if_pos c2, Nat.add_zero] at nxt
        exact nxt
      · have eu : u = nI t' + 1 := eu
        have ey : y = nI (wrN W G A B t' i) + 1 := ey
        rw [← nI_succ] at eu ey
        subst eu ey
        unfold wrN at nxt
        rw [if_neg c2] at nxt
        exact nxt
  exact key k 0 (by omega)
theorem m_fillsFits {h : hp} {v W G D k w s : Nat} {A : Nat → Int32} {B : Nat → Int64} {Q : Int32 → hp → Prop} (t : mAt h v) (a : mWld v h W G) (ok : okW W G) (d : mTold h D A B) (hD : D ≤ 20) (hk : k ≤ D) (hw : w ≤ 20) (hs : s ≤ 4) (hq : ∀ h1, eqE mScr h h1 → mFit h1 (fitB W G s w A B k) ((G + 1) ^ W) → Q (nI (cn (fitB W G s w A B k) ((G + 1) ^ W))) h1) : w_X12_fillsFits h (nI k) (nI w) (nI s) Q := by
  obtain ⟨o1, o2, o3, o4⟩ := id ok
  have hM := pow_W (G := G) (j := W) o4 o2
  unfold w_X12_fillsFits w_X12_fillsFits_0 w_X12_fillsFits_6
  intro X hX
  have wa : ∀ {R : Int32 → Prop} {g : hp}, eqE mScr h g → R (nI ((G + 1) ^ W)) → w_X12_worldAll g R := fun eg hr => m_worldAll (mAt_e eg t) (mWld_e eg a) ok hr
  generalize (G + 1) ^ W = M at hM wa hq
  have key : ∀ (n i : Nat) (g : hp), n + i = M → eqE mScr h g → mFit g (fitB W G s w A B k) i → X (nI (cn (fitB W G s w A B k) i), nI i, g) := by
    intro n
    induction n with
    | zero =>
      intro i g hi xg fg
      have ei : i = M := by omega
      subst ei
      apply hX
      exact wa xg ⟨fun _ => hq g xg fg, fun c => absurd (nI_le (Nat.le_refl _) (by omega)) c⟩
    | succ n ih =>
      intro i g hi xg fg
      have in1 : vp_in (nI i) 10000 := in_n (by omega) (by omega)
      apply hX
      have st : ∀ (r : Int32) (g' : hp), r = (if fitB W G s w A B k i = true then 1 else 0) → g' = sI g 40 i r → eqE mScr h g' ∧ mFit g' (fitB W G s w A B k) (i + 1) := by
        intro r g' er eg
        refine ⟨by rw [eg]; exact eqE_sI xg (by unfold mScr; omega), fun j hj => ?_⟩
        rw [eg]
        by_cases e : j = i
        · subst e
          rw [gI_at]; exact er
        · rw [gI_k _ _ e]; exact fg j (by omega)
      refine wa xg ⟨fun c => absurd c (nI_ge (by omega) (by omega)), fun _ => m_isFit (mAt_e xg t) (mWld_e xg a) ok (mTold_e xg d) hD (by omega) hk hw hs (fun hp => ⟨in1, fun h6 e6 => ⟨in1, ?_⟩⟩) (fun hp => ⟨in1, fun h6 e6 => ⟨in1, ?_⟩⟩)⟩
      · have e6 : h6 = sI g 40 (ix (nI i)) (jz 1) := e6
        rw [ix_n (by omega), show jz 1 = 1 from by decide] at e6
        obtain ⟨s1, s2⟩ := st 1 h6 (by rw [if_pos hp]) e6
        show (gI h6 40 (ix (nI i)) = 0 → _) ∧ (¬ gI h6 40 (ix (nI i)) = 0 → _)
        rw [ix_n (by omega), show gI h6 40 i = 1 from by rw [e6]; exact gI_at _ _ _ _]
        refine ⟨fun c => absurd c (by decide), fun _ y ey u eu => ?_⟩
        have ey : y = nI (cn (fitB W G s w A B k) i) + 1 := ey
        have eu : u = nI i + 1 := eu
        rw [← nI_succ] at ey eu
        subst ey eu
        have := ih (i + 1) h6 (by omega) s1 s2
        unfold cn at this
        rw [if_pos hp] at this
        exact this
      · have e6 : h6 = sI g 40 (ix (nI i)) (jz 0) := e6
        rw [ix_n (by omega), show jz 0 = 0 from by decide] at e6
        obtain ⟨s1, s2⟩ := st 0 h6 (by rw [if_neg hp]) e6
        show (gI h6 40 (ix (nI i)) = 0 → _) ∧ (¬ gI h6 40 (ix (nI i)) = 0 → _)
        rw [ix_n (by omega), show gI h6 40 i = 0 from by rw [e6]; exact gI_at _ _ _ _]
        refine ⟨fun _ u eu => ?_, fun c => absurd rfl c⟩
        have eu : u = nI i + 1 := eu
        rw [← nI_succ] at eu
        subst eu
        have := ih (i + 1) h6 (by omega) s1 s2
        unfold cn at this
        rw [if_neg hp, Nat.add_zero] at this
        exact this
  exact key M 0 h (by omega) (eqE_refl h) (fun i hi => by omega)
/-- as the calls want it -/
theorem m_fillsX {h : hp} {v W G D : Nat} {A : Nat → Int32} {B : Nat → Int64} {k w s : Int32} {Q : Int32 → hp → Prop} (t : mAt h v) (a : mWld v h W G) (ok : okW W G) (d : mTold h D A B) (hD : D ≤ 20) (c : isC D k w s) (hq : ∀ h1, eqE mScr h h1 → mFit h1 (fitX W G A B k w s) ((G + 1) ^ W) → Q (nI (cn (fitX W G A B k w s) ((G + 1) ^ W))) h1) : w_X12_fillsFits h k w s Q := by
  obtain ⟨c1, c2, c3⟩ := c
  obtain ⟨ek, hk⟩ := n_of c1.1
  obtain ⟨ew, hw⟩ := n_of c2.1
  obtain ⟨es, hs⟩ := n_of c3.1
  rw [ek, ew, es]
  exact m_fillsFits t a ok d hD (by omega) (by omega) (by omega) hq
