/-! game -/
theorem cLaw_e {o : Nat} {h h1 : hp} {L : Lw} (ho : isO o) (e : eqE cScr h h1) (a : cLaw (o + 4) h L) : cLaw (o + 4) h1 L := by
  have g0 : gI h1 (o + 4) 2 = gI h (o + 4) 2 := eqE_I e (by unfold cScr; rcases ho with q | q <;> subst q <;> omega)
  have g1 : ∀ i, gI h1 (o + 4 + 1) i = gI h (o + 4 + 1) i := fun i => eqE_I e (by unfold cScr; rcases ho with q | q <;> subst q <;> omega)
  have g2 : ∀ i, gI h1 (o + 4 + 2) i = gI h (o + 4 + 2) i := fun i => eqE_I e (by unfold cScr; rcases ho with q | q <;> subst q <;> omega)
  unfold cLaw isStep
  simp only [g0, g1, g2]
  exact a
theorem mLaw_e {i : Nat} {h h1 : hp} {L : Lw} (e : eqE mScr h h1) (a : mLaw i h L) : mLaw i h1 L := by
  have r : ∀ a j, (22 ≤ a ∧ a ≤ 30) → gI h1 a j = gI h a j := fun a j n => eqE_I e (by unfold mScr; omega)
  unfold mLaw at a ⊢
  simp only [r 22 _ (by decide), r 23 _ (by decide), r 24 _ (by decide), r 25 _ (by decide), r 26 _ (by decide), r 27 _ (by decide), r 28 _ (by decide), r 29 _ (by decide), r 30 _ (by decide)]
  exact a
theorem mAsk_e {s : Nat} {h h1 : hp} {L : Lw} (e : eqE mScr h h1) (a : mAsk s h L) : mAsk s h1 L := by
  have r : ∀ a j, (22 ≤ a ∧ a ≤ 30) → gI h1 a j = gI h a j := fun a j n => eqE_I e (by unfold mScr; omega)
  rcases a with ⟨a, b⟩ | ⟨a, b⟩
  · exact Or.inl ⟨mLaw_e e a, by rw [r _ _ (by decide), r _ _ (by decide)]; exact b⟩
  · exact Or.inr ⟨by rw [r _ _ (by decide), r _ _ (by decide)]; exact a, b⟩
theorem cAt_e {h h1 : hp} {o : Nat} (e : eqE cScr h h1) (t : cAt h o) : cAt h1 o := ⟨by rw [e.2]; exact t.1, t.2⟩
theorem cn_congr {P P' : Nat → Bool} : ∀ n, (∀ i, i < n → P i = P' i) → cn P n = cn P' n
  | 0, _ => rfl
  | n + 1, h => by
    show cn P n + (if P n = true then 1 else 0) = cn P' n + (if P' n = true then 1 else 0)
    rw [cn_congr n (fun i hi => h i (by omega)), h n (by omega)]
theorem cn_all : ∀ n, cn (fun _ => true) n = n
  | 0 => rfl
  | n + 1 => by
    show cn (fun _ => true) n + (if true = true then 1 else 0) = n + 1
    rw [cn_all n, if_pos rfl]
def kpB (P : Nat → Bool) (f : Nat → Int64) (v : Int64) (i : Nat) : Bool := P i && decide (f i = v)
theorem c_keep {h : hp} {W G : Nat} {b v : Int64} {P : Nat → Bool} {Q : hp → Prop} (ok : okW W G) (vl : cVal h W G b) (fi : cFit h P ((G + 1) ^ W)) (hq : ∀ h1, eqE cScr h h1 → cFit h1 (kpB P (wcF W G b) v) ((G + 1) ^ W) → Q h1) : w_X1_keep h v Q := by
  obtain ⟨o1, o2, o3, o4⟩ := id ok
  have hM := pow_W (G := G) (j := W) o4 o2
  unfold w_X1_keep w_X1_keep_0 w_X1_keep_5
  intro X hX
  unfold cVal at vl
  have vl : ∀ i, i < (G + 1) ^ W → gL h 65 i = wcF W G b i := vl
  generalize (G + 1) ^ W = M at hM vl fi hq
  generalize wcF W G b = f at vl hq
  have sub : ∀ i, kpB P f v i = true → P i = true := fun i hi => by
    unfold kpB at hi
    rw [Bool.and_eq_true] at hi
    exact hi.1
  have key : ∀ (n j : Nat) (g : hp), n + j = M → eqE cScr h g → gI g 71 1 = nI (cn P M) → (∀ i, i < M → gL g 65 i = f i) → (∀ i, j ≤ i → i < M → P i = true → gI g 72 (cn P i) = nI i) → (∀ i, i < j → kpB P f v i = true → gI g 72 (cn (kpB P f v) i) = nI i) → X (nI (cn (kpB P f v) j), nI (cn P j), g) := by
    intro n
    induction n with
    | zero =>
      intro j g hj xg mg vg ug pg
      have ej : j = M := by omega
      subst ej
      have hc := cn_le P j
      apply hX
      unfold w_X1_keep_b5
      rw [mg]
      refine ⟨fun _ h2 e2 => ?_, fun c => absurd (nI_le (Nat.le_refl _) (by omega)) c⟩
      have e2 : h2 = sI g 71 1 (nI (cn (kpB P f v) j)) := e2
      subst e2
      refine hq _ (eqE_sI xg (by unfold cScr; omega)) ⟨gI_at _ _ _ _, fun i hi hpi => ?_⟩
      rw [gI_o _ _ (by decide)]; exact pg i hi hpi
    | succ n ih =>
      intro j g hj xg mg vg ug pg
      have nxt := ih (j + 1)
      by_cases pj : P j = true
      · have hc := cn_le P M
        have hlt := cn_lt (P := P) (show j < M by omega) pj
        have hcs := cn_sub sub j
        have ec : cn P (j + 1) = cn P j + 1 := by
          show cn P j + _ = _
          rw [if_pos pj]
        rw [ec] at nxt
        have u1 := ug j (Nat.le_refl _) (by omega) pj
        have in1 : vp_in (nI (cn P j)) 10000 := in_n (by omega) (by omega)
        apply hX
        unfold w_X1_keep_b5
        rw [mg, ix_n (n := cn P j) (by omega), u1, ix_n (n := j) (by omega), vg j (by omega)]
        refine ⟨fun c => absurd c (nI_ge (by omega) (by omega)), fun _ => ⟨in1, in_n (by omega) (by omega), fun c u eu => ?_, fun c => ⟨in1, in_n (by omega) (by omega), fun h5 e5 y ey u eu => ?_⟩⟩⟩
        · have np : ¬ kpB P f v j = true := fun q => by
            unfold kpB at q
            rw [Bool.and_eq_true] at q
            exact c (of_decide_eq_true q.2)
          have ec2 : cn (kpB P f v) (j + 1) = cn (kpB P f v) j := by
            show cn (kpB P f v) j + _ = _
            rw [if_neg np, Nat.add_zero]
          rw [ec2] at nxt
          rw [← nI_succ] at eu
          subst eu
          refine nxt g (by omega) xg mg vg (fun i h1 h2 h3 => ug i (by omega) h2 h3) (fun i h1 h2 => ?_)
          rcases Nat.lt_or_ge i j with q | q
          · exact pg i q h2
          · exact absurd (by rw [show j = i from by omega]; exact h2) np
        · have pp : kpB P f v j = true := by
            unfold kpB
            rw [pj, decide_eq_true c]
            rfl
          have ec2 : cn (kpB P f v) (j + 1) = cn (kpB P f v) j + 1 := by
            show cn (kpB P f v) j + _ = _
            rw [if_pos pp]
          rw [ec2] at nxt
          have e5 : h5 = sI g 72 (ix (nI (cn (kpB P f v) j))) (nI j) := e5
          rw [ix_n (by omega)] at e5
          rw [← nI_succ] at eu ey
          subst eu ey
          refine nxt h5 (by omega) ?_ ?_ (fun i hi => ?_) (fun i h1 h2 h3 => ?_) (fun i h1 h2 => ?_)
          · rw [e5]; exact eqE_sI xg (by unfold cScr; omega)
          · rw [e5, gI_o _ _ (by decide)]; exact mg
          · rw [e5, gL_sI]; exact vg i hi
          · have hl := cn_lt (P := P) (show j < i by omega) pj
            rw [e5, gI_k _ _ (by omega)]
            exact ug i (by omega) h2 h3
          · rcases Nat.lt_or_ge i j with q | q
            · have hl := cn_lt (P := kpB P f v) q h2
              rw [e5, gI_k _ _ (by omega)]
              exact pg i q h2
            · rw [show i = j from by omega, e5]
              exact gI_at _ _ _ _
      · have e1 : cn P (j + 1) = cn P j := by
          show cn P j + _ = _
          rw [if_neg pj, Nat.add_zero]
        have np : ¬ kpB P f v j = true := fun q => pj (sub j q)
        have e2 : cn (kpB P f v) (j + 1) = cn (kpB P f v) j := by
          show cn (kpB P f v) j + _ = _
          rw [if_neg np, Nat.add_zero]
        have := nxt g (by omega) xg mg vg (fun i h1 h2 h3 => ug i (by omega) h2 h3) (fun i h1 h2 => by
          rcases Nat.lt_or_ge i j with q | q
          · exact pg i q h2
          · exact absurd (by rw [show j = i from by omega]; exact h2) np)
        rw [e1, e2] at this
        exact this
  exact key M 0 h (by omega) (eqE_refl h) fi.1 vl (fun i _ h2 h3 => fi.2 i h2 h3) (fun i hi => by omega)
theorem c_takeAll {h : hp} {W G : Nat} {Q : hp → Prop} (a : cWld h W G) (ok : okW W G) (hq : ∀ h1, eqE cScr h h1 → cFit h1 (fun _ => true) ((G + 1) ^ W) → Q h1) : w_X1_takeAll h Q := by
  obtain ⟨o1, o2, o3, o4⟩ := id ok
  have hM := pow_W (G := G) (j := W) o4 o2
  unfold w_X1_takeAll w_X1_takeAll_0
  intro h1 e1
  have x1 : eqE cScr h h1 := by rw [e1]; exact eqE_sI (eqE_refl h) (by unfold cScr; omega)
  rw [a.2.1] at e1
  have m1 : gI h1 71 1 = nI ((G + 1) ^ W) := by rw [e1]; exact gI_at _ _ _ _
  clear e1
  unfold w_X1_takeAll_13
  intro X hX
  generalize (G + 1) ^ W = M at hM m1 hq
  have key : ∀ (n j : Nat) (g : hp), n + j = M → eqE cScr h g → gI g 71 1 = nI M → (∀ i, i < j → gI g 72 i = nI i) → X (nI j, g) := by
    intro n
    induction n with
    | zero =>
      intro j g hj xg mg pg
      have ej : j = M := by omega
      subst ej
      apply hX
      unfold w_X1_takeAll_b13
      rw [mg]
      exact ⟨fun _ => hq g xg ⟨by rw [cn_all]; exact mg, fun i hi _ => by rw [cn_all]; exact pg i hi⟩, fun c => absurd (nI_le (Nat.le_refl _) (by omega)) c⟩
    | succ n ih =>
      intro j g hj xg mg pg
      apply hX
      unfold w_X1_takeAll_b13
      rw [mg, ix_n (n := j) (by omega)]
      refine ⟨fun c => absurd c (nI_ge (by omega) (by omega)), fun _ => ⟨in_n (by omega) (by omega), fun h3 e3 u eu => ?_⟩⟩
      rw [← nI_succ] at eu
      subst eu
      refine ih (j + 1) h3 (by omega) ?_ ?_ (fun i hi => ?_)
      · rw [e3]; exact eqE_sI xg (by unfold cScr; omega)
      · rw [e3, gI_o _ _ (by decide)]; exact mg
      · by_cases z : i = j
        · subst z
          rw [e3]; exact gI_at _ _ _ _
        · rw [e3, gI_k _ _ z]; exact pg i (by omega)
  exact key M 0 h1 (by omega) x1 m1 (fun i h => by omega)
def gmE (M : Nat) (x : Int32) (P : Nat → Bool) (q : Nat) (fig : Int32) : Int32 := if x = 1 then fig else if cn P M ≤ 1 then nI q else -2
def gmF (L : Lw) (W G M wd : Nat) (x : Int32) : Nat → (Nat → Bool) → Int32 → Int32 → Int64 → Int32
  | 0, P, fig, _, _ => gmE M x P 50 fig
  | n + 1, P, fig, said, ans => if cn P M ≤ 1 then gmE M x P (50 - (n + 1)) fig else gmF L W G M wd x n (kpB P (wcF W G (tellV L (vF (nI (50 - (n + 1))) ans said)).toInt64) (wcV W G wd (tellV L (vF (nI (50 - (n + 1))) ans said)).toInt64)) (fig + nI (figV (tellV L (vF (nI (50 - (n + 1))) ans said)).toInt64)) (tellV L (vF (nI (50 - (n + 1))) ans said)) (wcV W G wd (tellV L (vF (nI (50 - (n + 1))) ans said)).toInt64)
abbrev isGm (M : Nat) (w x : Int32) : Prop := (0 ≤ w.toInt ∧ w.toInt < (M : Int)) ∧ 0 ≤ x.toInt ∧ x.toInt ≤ 1
theorem c_game {h : hp} {o W G : Nat} {L : Lw} {w x : Int32} {Q : Int32 → hp → Prop} (t : cAt h o) (ho : isO o) (a : cWld h W G) (ok : okW W G) (la : cLaw (o + 4) h L) (wl : wfL L) (hq1 : ∀ h1, isGm ((G + 1) ^ W) w x → eqE cScr h h1 → Q (gmF L W G ((G + 1) ^ W) w.toInt.toNat x 50 (fun _ => true) 0 0 0) h1) (hq0 : ¬ isGm ((G + 1) ^ W) w x → Q (-1) h) : w_X11_game h w x Q := by
  obtain ⟨o1, o2, o3, o4⟩ := id ok
  have hM := pow_W (G := G) (j := W) o4 o2
  have z0 : (0 : Int32).toInt = 0 := rfl
  have eM := n_toInt (n := (G + 1) ^ W) (by omega)
  unfold w_X11_game w_X11_game_0 w_X11_isWorld w_X11_isWorld_0
  rw [a.2.1]
  refine ⟨fun c => ⟨fun _ => hq0 (fun q => ?_), fun q => absurd rfl q⟩, fun c => ⟨fun c2 => ⟨fun _ => hq0 (fun q => ?_), fun q => absurd rfl q⟩, fun c2 => ⟨fun q => absurd q (by decide), fun _ => ?_⟩⟩⟩
  · rw [t_lt, z0] at c; have := q.1.1; omega
  · rw [t_le, eM] at c2; have := q.1.2; omega
  · rw [t_lt, z0] at c
    rw [t_le, eM] at c2
    refine c_within (fun c3 => ⟨fun _ => ?_, fun q => absurd q (by decide)⟩) (fun c3 => ⟨fun q => absurd rfl q, fun _ => hq0 (fun q => c3 (by rw [tL_int]; exact q.2))⟩)
    rw [tL_int] at c3
    have c3 : 0 ≤ x.toInt ∧ x.toInt ≤ 1 := c3
    have hq := fun h1 => hq1 h1 ⟨⟨by omega, by omega⟩, c3⟩
    obtain ⟨ew, hw⟩ := n_of (x := w) (by omega)
    have hwd : w.toInt.toNat < (G + 1) ^ W := by omega
    generalize w.toInt.toNat = wd at ew hw hwd hq
    have c := True.intro
    have c2 := True.intro
    have hq1 := True.intro
    have hq0 := True.intro
    subst ew
    refine c_takeAll a ok (fun h7 x7 f7 => ?_)
    unfold w_X11_game_38
    intro X hX
    have key : ∀ (n : Nat) (P : Nat → Bool) (fig said : Int32) (ans : Int64) (g : hp), n ≤ 50 → eqE cScr h g → cFit g P ((G + 1) ^ W) → (∀ h1, eqE cScr h h1 → Q (gmF L W G ((G + 1) ^ W) wd x n P fig said ans) h1) → X (nI (50 - n), fig, said, ans, g) := by
      intro n
      induction n with
      | zero =>
        intro P fig said ans g _ xg fg hq
        have hq := hq g xg
        have hcn := cn_le P ((G + 1) ^ W)
        unfold gmF gmE at hq
        apply hX
        refine ⟨fun _ => ⟨fun cx => ?_, fun cx => ?_⟩, fun q => absurd (show (50 : Int32) ≤ nI 50 by decide) q⟩
        · rw [if_neg cx] at hq
          show (gI g 71 1 ≤ 1 → _) ∧ (¬ gI g 71 1 ≤ 1 → _)
          rw [fg.1]
          refine ⟨fun cz => ?_, fun cz => ?_⟩
          · rw [if_pos ((nI_leI (b := 1) (by omega) (by omega)).mp cz)] at hq; exact hq
          · rw [if_neg (fun q => cz (nI_le (b := 1) q (by omega)))] at hq; exact hq
        · rw [if_pos cx] at hq; exact hq
      | succ n ih =>
        intro P fig said ans g hn xg fg hq
        have hcn := cn_le P ((G + 1) ^ W)
        unfold gmF at hq
        apply hX
        unfold w_X11_game_b38
        rw [fg.1]
        refine ⟨fun q => absurd q (nI_ge (b := 50) (by omega) (by omega)), fun _ => ⟨fun cz => ?_, fun cz => ?_⟩⟩
        · have cz := (nI_leI (b := 1) (by omega) (by omega)).mp cz
          have hq := hq g xg
          rw [if_pos cz] at hq
          unfold gmE at hq
          refine ⟨fun cx => ?_, fun cx => ?_⟩
          · rw [if_neg cx, if_pos cz] at hq
            rw [fg.1]
            exact ⟨fun _ => hq, fun q => absurd (nI_le (b := 1) cz (by omega)) q⟩
          · rw [if_pos cx] at hq; exact hq
        · have cz : ¬ cn P ((G + 1) ^ W) ≤ 1 := fun q => cz (nI_le (b := 1) q (by omega))
          have hq := fun h1 e => by have := hq h1 e; rw [if_neg cz] at this; exact this
          have tg := cAt_e xg t
          rw [tg.1]
          refine ⟨t.2, c_question (cLaw_e ho xg la) wl (fun h11 x11 => ?_)⟩
          have x011 := eqE_trans xg (eqE_w (kScr_c ho) x11)
          have f11 : cFit h11 P ((G + 1) ^ W) := by
            have nk : ∀ a j, (a = 71 ∨ a = 72) → gI h11 a j = gI g a j := fun a j hh => eqE_I x11 (by unfold kScr; rcases ho with q | q <;> subst q <;> omega)
            exact ⟨by rw [nk _ _ (Or.inl rfl)]; exact fg.1, fun i hi hpi => by rw [nk _ _ (Or.inr rfl)]; exact fg.2 i hi hpi⟩
          show w_X10_comeBy h11 (tellV L (vF (nI (50 - (n + 1))) ans said)).toInt64 _
          generalize tellV L (vF (nI (50 - (n + 1))) ans said) = sd at hq
          refine c_comeBy (cWld_e x011 a) ok (fun h13 x13 v13 => ⟨in_n (by omega) hw, fun an ean => ?_⟩)
          have ean : an = gL h13 65 (ix (nI wd)) := ean
          rw [ix_n hw, v13 wd hwd] at ean
          subst ean
          refine c_keep ok v13 (cFit_v x13 f11) (fun h15 x15 f15 => c_figures (by rw [tL_int]; have := b_lo sd; omega) (fun y ey u eu => ?_))
          have ey : y = fig + nI (figV sd.toInt64) := ey
          have eu : u = nI (50 - (n + 1)) + 1 := eu
          rw [← nI_succ, show 50 - (n + 1) + 1 = 50 - n from by omega] at eu
          subst ey eu
          exact ih _ _ _ _ h15 (by omega) (eqE_trans (eqE_trans x011 (eqE_w vScr_c x13)) x15) f15 hq
    exact key 50 _ 0 0 0 h7 (Nat.le_refl _) x7 f7 hq
theorem cn_drop {P : Nat → Bool} {f : Nat → Int64} {v : Int64} {M j : Nat} (hj : j < M) : cn (fun i => if i < j + 1 then kpB P f v i else P i) M + (if P j = true ∧ ¬ f j = v then 1 else 0) = cn (fun i => if i < j then kpB P f v i else P i) M := by
  have low : ∀ n, n ≤ j → cn (fun i => if i < j + 1 then kpB P f v i else P i) n = cn (fun i => if i < j then kpB P f v i else P i) n := fun n hn => cn_congr n (fun i hi => by
    show (if i < j + 1 then kpB P f v i else P i) = (if i < j then kpB P f v i else P i)
    rw [if_pos (show i < j + 1 by omega), if_pos (show i < j by omega)])
  have hi : ∀ n, cn (fun i => if i < j + 1 then kpB P f v i else P i) (j + 1 + n) + (if P j = true ∧ ¬ f j = v then 1 else 0) = cn (fun i => if i < j then kpB P f v i else P i) (j + 1 + n) := by
    intro n
    induction n with
    | zero =>
      show cn (fun i => if i < j + 1 then kpB P f v i else P i) j + (if (if j < j + 1 then kpB P f v j else P j) = true then 1 else 0) + _ = cn (fun i => if i < j then kpB P f v i else P i) j + (if (if j < j then kpB P f v j else P j) = true then 1 else 0)
      rw [low j (Nat.le_refl _), if_pos (Nat.lt_succ_self j), if_neg (Nat.lt_irrefl j)]
      by_cases p : P j = true
      · by_cases e : f j = v
        · have k1 : kpB P f v j = true := by
            unfold kpB
            rw [p, decide_eq_true e]
            rfl
          rw [if_pos k1, if_neg (show ¬ (P j = true ∧ ¬ f j = v) from fun q => q.2 e), if_pos p]
        · have k1 : ¬ kpB P f v j = true := by
            unfold kpB
            rw [p, decide_eq_false e]
            decide
          rw [if_neg k1, if_pos (show P j = true ∧ ¬ f j = v from ⟨p, e⟩), if_pos p]
      · have k1 : ¬ kpB P f v j = true := fun q => by
          unfold kpB at q
          rw [Bool.and_eq_true] at q
          exact p q.1
        rw [if_neg k1, if_neg (show ¬ (P j = true ∧ ¬ f j = v) from fun q => p q.1), if_neg p]
    | succ n ih =>
      show cn (fun i => if i < j + 1 then kpB P f v i else P i) (j + 1 + n) + (if (if j + 1 + n < j + 1 then kpB P f v (j + 1 + n) else P (j + 1 + n)) = true then 1 else 0) + _ = cn (fun i => if i < j then kpB P f v i else P i) (j + 1 + n) + (if (if j + 1 + n < j then kpB P f v (j + 1 + n) else P (j + 1 + n)) = true then 1 else 0)
      rw [if_neg (show ¬ j + 1 + n < j + 1 by omega), if_neg (show ¬ j + 1 + n < j by omega)]
      omega
  have := hi (M - (j + 1))
  rw [show j + 1 + (M - (j + 1)) = M from by omega] at this
  exact this
/-- the reference drops those that come to another number -/
theorem m_drop {h : hp} {s W G : Nat} {P : Nat → Bool} {v : Int64} {x1 said : Int32} {Q : hp → Prop} {X : Int32 × Int64 × Int32 × hp → Prop} (t : mAt h s) (a : mWld s h W G) (ok : okW W G) (fi : mFit h P ((G + 1) ^ W)) (hq : ∀ h1, eqE (fun a _ => a = 40) h h1 → mFit h1 (kpB P (wcF W G said.toInt64) v) ((G + 1) ^ W) → X (nI (cn (kpB P (wcF W G said.toInt64) v) ((G + 1) ^ W)), v, said, h1)) : w_X12_plays_109 Q X x1 (nI ((G + 1) ^ W)) v said (nI (cn P ((G + 1) ^ W))) 0 h := by
  obtain ⟨o1, o2, o3, o4⟩ := id ok
  have hM := pow_W (G := G) (j := W) o4 o2
  unfold w_X12_plays_109
  intro Y hY
  have wc : ∀ {i : Nat} {R : Int64 → Prop} {g : hp}, i < 2147483648 → eqE (fun a _ => a = 40) h g → R (wcF W G said.toInt64 i) → w_X12_worldComes g (nI i) said.toInt64 R := fun hi eg hr => by
    have eg := eqE_w (P' := mScr) (fun a j q => by unfold mScr; omega) eg
    exact m_worldComes (mAt_e eg t) (mWld_e eg a) ok hi hr
  generalize wcF W G said.toInt64 = f at hq wc
  generalize (G + 1) ^ W = M at hM fi hq hY
  have key : ∀ (n j : Nat) (g : hp), n + j = M → eqE (fun a _ => a = 40) h g → mFit g (fun i => if i < j then kpB P f v i else P i) M → Y (nI (cn (fun i => if i < j then kpB P f v i else P i) M), nI j, g) := by
    intro n
    induction n with
    | zero =>
      intro j g hj xg fg
      have ej : j = M := by omega
      subst ej
      apply hY
      refine ⟨fun _ => ?_, fun c => absurd (nI_le (Nat.le_refl _) (by omega)) c⟩
      have e : cn (fun i => if i < j then kpB P f v i else P i) j = cn (kpB P f v) j := cn_congr j (fun i hi => by
        show (if i < j then kpB P f v i else P i) = _
        rw [if_pos hi])
      show X (nI (cn (fun i => if i < j then kpB P f v i else P i) j), v, said, g)
      rw [e]
      refine hq g xg (fun i hi => ?_)
      have this : gI g 40 i = if (if i < j then kpB P f v i else P i) = true then 1 else 0 := fg i hi
      rw [if_pos hi] at this
      exact this
    | succ n ih =>
      intro j g hj xg fg
      have nxt := ih (j + 1)
      have dr := cn_drop (P := P) (f := f) (v := v) (show j < M by omega)
      have hcn := cn_le (fun i => if i < j then kpB P f v i else P i) M
      have in1 : vp_in (nI j) 10000 := in_n (by omega) (by omega)
      have f40 : gI g 40 j = if P j = true then 1 else 0 := by
        have this : gI g 40 j = if (if j < j then kpB P f v j else P j) = true then 1 else 0 := fg j (by omega)
        rw [if_neg (Nat.lt_irrefl j)] at this
        exact this
      -- nothing changes
      have same : kpB P f v j = P j → mFit g (fun i => if i < j + 1 then kpB P f v i else P i) M := fun e i hi => by
        have := fg i hi
        show gI g 40 i = if (if i < j + 1 then kpB P f v i else P i) = true then 1 else 0
        have this : gI g 40 i = if (if i < j then kpB P f v i else P i) = true then 1 else 0 := this
        rw [this]
        by_cases c : i < j
        · rw [if_pos c, if_pos (show i < j + 1 by omega)]
        · rw [if_neg c]
          by_cases c2 : i = j
          · subst c2
            rw [if_pos (Nat.lt_succ_self i), e]
          · rw [if_neg (show ¬ i < j + 1 by omega)]
      apply hY
      unfold w_X12_plays_b109
      rw [ix_n (n := j) (by omega), f40]
      refine ⟨fun c => absurd c (nI_ge (by omega) (by omega)), fun _ => ⟨in1, fun c u eu => ?_, fun c => wc (by omega) xg ⟨fun c2 => ⟨in1, fun h24 e24 y ey u eu => ?_⟩, fun c2 u eu => ?_⟩⟩⟩
      · have pj : ¬ P j = true := fun z => by rw [if_pos z] at c; exact absurd c (by decide)
        rw [← nI_succ] at eu
        subst eu
        rw [if_neg (fun q => pj q.1), Nat.add_zero] at dr
        have ek : kpB P f v j = P j := by
          unfold kpB
          cases hb : P j with
          | true => exact absurd hb pj
          | false => rfl
        have := nxt g (by omega) xg (same ek)
        rw [dr] at this
        exact this
      · have pj : P j = true := by
          by_cases z : P j = true
          · exact z
          · rw [if_neg z] at c; exact absurd rfl c
        have ey : y = nI (cn (fun i => if i < j then kpB P f v i else P i) M) + (-1) := ey
        rw [if_pos ⟨pj, c2⟩] at dr
        rw [← dr, m1, nI_pred] at ey
        rw [← nI_succ] at eu
        subst ey eu
        have e24 : h24 = sI g 40 j 0 := by rw [e24]; rfl
        refine nxt h24 (by omega) (by rw [e24]; exact eqE_sI xg rfl) (fun i hi => ?_)
        have kj : kpB P f v j = false := by
          unfold kpB
          rw [pj, decide_eq_false c2]
          rfl
        show gI h24 40 i = if (if i < j + 1 then kpB P f v i else P i) = true then 1 else 0
        rw [e24]
        by_cases cz : i = j
        · subst cz
          rw [gI_at, if_pos (Nat.lt_succ_self i), kj]
          rfl
        · rw [gI_k _ _ cz]
          have := fg i hi
          have this : gI g 40 i = if (if i < j then kpB P f v i else P i) = true then 1 else 0 := this
          rw [this]
          by_cases cl : i < j
          · rw [if_pos cl, if_pos (show i < j + 1 by omega)]
          · rw [if_neg cl, if_neg (show ¬ i < j + 1 by omega)]
      · have pj : P j = true := by
          by_cases z : P j = true
          · exact z
          · rw [if_neg z] at c; exact absurd rfl c
        rw [← nI_succ] at eu
        subst eu
        rw [if_neg (fun q => q.2 c2), Nat.add_zero] at dr
        have ek : kpB P f v j = P j := by
          unfold kpB
          rw [pj, decide_eq_true c2]
          rfl
        have := nxt g (by omega) xg (same ek)
        rw [dr] at this
        exact this
  have := key M 0 h (by omega) (eqE_refl h) (fun i hi => by
    have := fi i hi
    show gI h 40 i = if (if i < 0 then kpB P f v i else P i) = true then 1 else 0
    rw [if_neg (Nat.not_lt_zero i)]
    exact this)
  have e : cn (fun i => if i < 0 then kpB P f v i else P i) M = cn P M := cn_congr M (fun i hi => if_neg (by omega))
  rw [e] at this
  exact this
theorem m_game {h : hp} {s W G : Nat} {L : Lw} {w x : Int32} {Q : Int32 → hp → Prop} (t : mAt h s) (a : mWld s h W G) (ok : okW W G) (la : mAsk s h L) (wl : wfL L) (hq1 : ∀ h1, isGm ((G + 1) ^ W) w x → eqE mScr h h1 → Q (gmF L W G ((G + 1) ^ W) w.toInt.toNat x 50 (fun _ => true) 0 0 0) h1) (hq0 : ¬ isGm ((G + 1) ^ W) w x → Q (-1) h) : w_X12_game h w x Q := by
  obtain ⟨o1, o2, o3, o4⟩ := id ok
  have hM := pow_W (G := G) (j := W) o4 o2
  have hpos : 0 < (G + 1) ^ W := Nat.pow_pos (by omega)
  have z0 : (0 : Int64).toInt = 0 := rfl
  have i1 : (1 : Int32).toInt = 1 := rfl
  have eM := n_toInt (n := (G + 1) ^ W) (by omega)
  have eM1 : (nI ((G + 1) ^ W) - 1).toInt = (((G + 1) ^ W : Nat) : Int) - 1 := by rw [t_sub (by rw [eM, i1]; omega) (by rw [eM, i1]; omega), eM, i1]
  unfold w_X12_game w_X12_game_0
  refine m_worldAll t a ok (m_in (fun c => ⟨fun q => absurd q (by decide), fun _ => ?_⟩) (fun c => ⟨fun _ => hq0 (fun q => c ?_), fun q => absurd rfl q⟩))
  · rw [tL_int, tL_int, eM1, z0] at c
    refine m_in (fun c3 => ⟨fun _ => ?_, fun q => absurd q (by decide)⟩) (fun c3 => ⟨fun q => absurd rfl q, fun _ => hq0 (fun q => c3 (by rw [tL_int]; exact q.2))⟩)
    rw [tL_int] at c3
    have c3 : 0 ≤ x.toInt ∧ x.toInt ≤ 1 := c3
    have hq := fun h1 => hq1 h1 ⟨⟨by omega, by omega⟩, c3⟩
    obtain ⟨ew, hw⟩ := n_of (x := w) (by omega)
    have hwd : w.toInt.toNat < (G + 1) ^ W := by omega
    generalize w.toInt.toNat = wd at ew hw hwd hq
    have c := True.intro
    have hq1 := True.intro
    have hq0 := True.intro
    subst ew
    have hx01 : x = 0 ∨ x = 1 := by
      have e0 : (0 : Int32).toInt = 0 := rfl
      rcases Int.lt_or_le x.toInt 1 with q | q
      · exact Or.inl (t_eq.mpr (by rw [e0]; omega))
      · exact Or.inr (t_eq.mpr (by rw [i1]; omega))
    -- the end
    have fin : ∀ (P : Nat → Bool) (q : Nat) (fig : Int32) (g : hp), eqE mScr h g → gI g 0 65 = nI q → gI g 0 66 = fig → Q (gmE ((G + 1) ^ W) x P q fig) = Q (gmE ((G + 1) ^ W) x P q fig) → (∀ h1, eqE mScr h h1 → Q (gmE ((G + 1) ^ W) x P q fig) h1) → w_X12_plays_163 (fun h9 => (¬ x = 0 → Q (gI h9 0 66) h9) ∧ (x = 0 → Q (gI h9 0 65) h9)) (nI (cn P ((G + 1) ^ W))) g := by
      intro P q fig g xg g65 g66 _ hq
      have hcn := cn_le P ((G + 1) ^ W)
      unfold gmE at hq
      refine ⟨fun cz => ⟨fun cx => ?_, fun cx => ?_⟩, fun cz h29 e29 => ⟨fun cx => ?_, fun cx => ?_⟩⟩
      · have x1 : x = 1 := by
          rcases hx01 with z | z
          · exact absurd z cx
          · exact z
        have hq := hq g xg
        rw [if_pos x1] at hq
        rw [g66]; exact hq
      · have hq := hq g xg
        rw [if_neg (by rw [cx]; decide), if_pos ((nI_leI (b := 1) (by omega) (by omega)).mp cz)] at hq
        rw [g65]; exact hq
      · have x1 : x = 1 := by
          rcases hx01 with z | z
          · exact absurd z cx
          · exact z
        have hq := hq h29 (by rw [e29]; exact eqE_sI xg (by unfold mScr; omega))
        rw [if_pos x1] at hq
        rw [e29, gI_k _ _ (by decide), g66, ← e29]; exact hq
      · have hq := hq h29 (by rw [e29]; exact eqE_sI xg (by unfold mScr; omega))
        rw [if_neg (by rw [cx]; decide), if_neg (fun z => cz (nI_le (b := 1) z (by omega)))] at hq
        rw [e29, gI_at, ← e29]; exact hq
    unfold w_X12_plays w_X12_plays_0
    refine m_worldAll t a ok ?_
    unfold w_X12_plays_7
    intro Y hY
    -- the questions
    have quest : ∀ g : hp, eqE mScr h g → mFit g (fun _ => true) ((G + 1) ^ W) → gI g 0 65 = nI 0 → gI g 0 66 = 0 → w_X12_plays_43 (fun h9 => (¬ x = 0 → Q (gI h9 0 66) h9) ∧ (x = 0 → Q (gI h9 0 65) h9)) (nI wd) (nI ((G + 1) ^ W)) (nI ((G + 1) ^ W)) 0 0 g := by
      intro g xg fg g65 g66
      unfold w_X12_plays_43
      intro X hX
      have key : ∀ (n : Nat) (P : Nat → Bool) (fig said : Int32) (ans : Int64) (g : hp), n ≤ 50 → eqE mScr h g → mFit g P ((G + 1) ^ W) → gI g 0 65 = nI (50 - n) → gI g 0 66 = fig → (∀ h1, eqE mScr h h1 → Q (gmF L W G ((G + 1) ^ W) wd x n P fig said ans) h1) → X (nI (cn P ((G + 1) ^ W)), ans, said, g) := by
        intro n
        induction n with
        | zero =>
          intro P fig said ans g _ xg fg g65 g66 hq
          apply hX
          unfold w_X12_plays_b43
          rw [g65]
          exact ⟨fun _ => fin P 50 fig g xg g65 g66 rfl hq, fun _ => ⟨fun _ => fin P 50 fig g xg g65 g66 rfl hq, fun q => absurd (show (50 : Int32) ≤ nI 50 by decide) q⟩⟩
        | succ n ih =>
          intro P fig said ans g hn xg fg g65 g66 hq
          have hcn := cn_le P ((G + 1) ^ W)
          unfold gmF at hq
          apply hX
          unfold w_X12_plays_b43
          rw [g65]
          refine ⟨fun cz => ?_, fun cz => ⟨fun q => absurd q (nI_ge (b := 50) (by omega) (by omega)), fun _ => ?_⟩⟩
          · have cz := (nI_leI (b := 1) (by omega) (by omega)).mp cz
            refine fin P (50 - (n + 1)) fig g xg g65 g66 rfl (fun h1 e => ?_)
            have := hq h1 e
            rw [if_pos cz] at this
            exact this
          · have cz : ¬ cn P ((G + 1) ^ W) ≤ 1 := fun q => cz (nI_le (b := 1) q (by omega))
            have hq := fun h1 e => by have := hq h1 e; rw [if_neg cz] at this; exact this
            have e50 := n_toInt (n := 50 - (n + 1)) (by omega)
            refine m_asksAfter (mAt_e xg t) (mAsk_e xg la) wl (by rw [e50]; omega) (by rw [e50]; omega) (fun h10 x10 => ?_)
            have xa := x10
            have x010 := eqE_trans xg (eqE_w aScr_m x10)
            have f10 : mFit h10 P ((G + 1) ^ W) := fun i hi => by rw [eqE_I xa (by unfold tmScr; omega)]; exact fg i hi
            have g65' : gI h10 0 65 = nI (50 - (n + 1)) := by rw [eqE_I xa (by unfold tmScr; omega)]; exact g65
            have g66' : gI h10 0 66 = fig := by rw [eqE_I xa (by unfold tmScr; omega)]; exact g66
            generalize tellV L (vF (nI (50 - (n + 1))) ans said) = sd at hq
            show w_X12_worldComes h10 (nI wd) sd.toInt64 _
            refine m_worldComes (mAt_e x010 t) (mWld_e x010 a) ok hw (fun h14 e14 => m_figures (fun h17 e17 => ?_))
            rw [g65', ← nI_succ, show 50 - (n + 1) + 1 = 50 - n from by omega] at e14
            have g66'' : gI h14 0 66 = fig := by rw [e14, gI_k _ _ (by decide)]; exact g66'
            rw [g66''] at e17
            have x17 : eqE mScr h h17 := by rw [e17, e14]; exact eqE_sI (eqE_sI x010 (by unfold mScr; omega)) (by unfold mScr; omega)
            have f17 : mFit h17 P ((G + 1) ^ W) := fun i hi => by rw [e17, gI_o _ _ (by decide), e14, gI_o _ _ (by decide)]; exact f10 i hi
            refine m_drop (mAt_e x17 t) (mWld_e x17 a) ok f17 (fun h20 x20 f20 => ?_)
            have x020 := eqE_trans x17 (eqE_w (P' := mScr) (fun a j q => by unfold mScr; omega) x20)
            refine ih _ _ _ _ h20 (by omega) x020 f20 ?_ ?_ hq
            · rw [eqE_I x20 (by decide), e17, gI_k _ _ (by decide), e14]; exact gI_at _ _ _ _
            · rw [eqE_I x20 (by decide), e17]; exact gI_at _ _ _ _
      have := key 50 (fun _ => true) 0 0 0 g (Nat.le_refl _) xg fg g65 g66 hq
      rw [cn_all] at this
      exact this
    have key0 : ∀ (n j : Nat) (g : hp), n + j = (G + 1) ^ W → eqE mScr h g → (∀ i, i < j → gI g 40 i = 1) → Y (nI j, g) := by
      intro n
      induction n with
      | zero =>
        intro j g hj xg fg
        have ej : j = (G + 1) ^ W := by omega
        apply hY
        refine ⟨fun _ h4 e4 h5 e5 => ?_, fun q => absurd (by rw [ej]; exact nI_le (Nat.le_refl _) (by omega)) q⟩
        refine quest h5 ?_ (fun i hi => ?_) ?_ ?_
        · rw [e5, e4]; exact eqE_sI (eqE_sI xg (by unfold mScr; omega)) (by unfold mScr; omega)
        · rw [e5, gI_o _ _ (by decide), e4, gI_o _ _ (by decide)]; exact fg i (by omega)
        · rw [e5, gI_k _ _ (by decide), e4]; exact gI_at _ _ _ _
        · rw [e5]; exact gI_at _ _ _ _
      | succ n ih =>
        intro j g hj xg fg
        apply hY
        refine ⟨fun q => absurd q (nI_ge (by omega) (by omega)), fun _ => ⟨in_n (by omega) (by omega), fun h6 e6 u eu => ?_⟩⟩
        have e6 : h6 = sI g 40 (ix (nI j)) (jz 1) := e6
        have eu : u = nI j + 1 := eu
        rw [ix_n (by omega), show jz 1 = 1 from by decide] at e6
        rw [← nI_succ] at eu
        subst eu
        refine ih (j + 1) h6 (by omega) ?_ (fun i hi => ?_)
        · rw [e6]; exact eqE_sI xg (by unfold mScr; omega)
        · by_cases z : i = j
          · subst z
            rw [e6]; exact gI_at _ _ _ _
          · rw [e6, gI_k _ _ z]; exact fg i (by omega)
    exact key0 ((G + 1) ^ W) 0 h (by omega) (eqE_refl h) (fun i h => by omega)
  · rw [tL_int, tL_int, eM1, z0]
    have := q.1
    omega
