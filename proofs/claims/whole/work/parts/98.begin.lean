/-! the worlds are settled -/
theorem nzF_s {G a b p : Nat} (h1 : ∀ k, ¬ k = p → figW G a k = figW G b k) (h2 : ¬ figW G a p = 0) (h3 : figW G b p = 0) : ∀ n, nzF G a n = nzF G b n + (if p < n then 1 else 0)
  | 0 => by rw [if_neg (by omega)]; rfl
  | n + 1 => by
    have ih := nzF_s h1 h2 h3 n
    show nzF G a n + (if figW G a n = 0 then 0 else 1) = nzF G b n + (if figW G b n = 0 then 0 else 1) + (if p < n + 1 then 1 else 0)
    by_cases e : n = p
    · subst e
      rw [if_neg (Nat.lt_irrefl n)] at ih
      rw [if_neg h2, if_pos h3, if_pos (Nat.lt_succ_self n)]
      omega
    · rw [h1 n e]
      by_cases c : p < n
      · rw [if_pos c] at ih
        rw [if_pos (show p < n + 1 by omega)]
        omega
      · rw [if_neg c] at ih
        rw [if_neg (show ¬ p < n + 1 by omega)]
        omega
theorem figW_mod {G i p : Nat} (h1 : (G + 1) ^ p ≤ i) (h2 : i < (G + 1) ^ (p + 1)) : (∀ k, ¬ k = p → figW G i k = figW G (i % (G + 1) ^ p) k) ∧ ¬ figW G i p = 0 ∧ figW G (i % (G + 1) ^ p) p = 0 := by
  have hB : 0 < (G + 1) ^ p := Nat.pow_pos (by omega)
  have hm : i % (G + 1) ^ p < (G + 1) ^ p := Nat.mod_lt _ hB
  refine ⟨fun k hk => ?_, ?_, ?_⟩
  · unfold figW
    rcases Nat.lt_or_ge k p with q | q
    · have e : (G + 1) ^ p = (G + 1) ^ k * (G + 1) ^ (p - k) := by
        rw [← Nat.pow_add]
        congr 1
        omega
      rw [e, Nat.mod_mul_right_div_self]
      have e2 : (G + 1) ^ (p - k) = (G + 1) * (G + 1) ^ (p - k - 1) := by
        rw [← Nat.pow_succ']
        congr 1
        omega
      rw [e2, Nat.mod_mul_right_mod]
    · have hle : (G + 1) ^ (p + 1) ≤ (G + 1) ^ k := Nat.pow_le_pow_right (by omega) (by omega)
      have hle2 : (G + 1) ^ p ≤ (G + 1) ^ k := Nat.pow_le_pow_right (by omega) (by omega)
      rw [Nat.div_eq_of_lt (by omega), Nat.div_eq_of_lt (by omega)]
  · unfold figW
    have hq : i / (G + 1) ^ p < G + 1 := by
      rw [Nat.div_lt_iff_lt_mul hB, Nat.mul_comm, ← Nat.pow_succ]
      exact h2
    have hq1 : 1 ≤ i / (G + 1) ^ p := (Nat.le_div_iff_mul_le hB).mpr (by omega)
    rw [Nat.mod_eq_of_lt hq]
    omega
  · unfold figW
    rw [Nat.div_eq_of_lt hm, Nat.zero_mod]
theorem nzF_0 (G : Nat) : ∀ n, nzF G 0 n = 0
  | 0 => rfl
  | n + 1 => by
    show nzF G 0 n + (if figW G 0 n = 0 then 0 else 1) = 0
    rw [nzF_0 G n, figW_0, if_pos rfl]
def wSc (a _j : Nat) : Prop := a = 64 ∨ a = 66
theorem c_settle {h : hp} {W G : Nat} {Q : hp → Prop} (ok : okW W G) (hq : ∀ h1, eqE wSc h h1 → cWld h1 W G → cNz h1 W G → Q h1) : w_X10_settle h (nI W) (nI G) Q := by
  obtain ⟨o1, o2, o3, o4⟩ := id ok
  unfold w_X10_settle w_X10_settle_0
  intro h1 e1 h2 e2
  refine ⟨in_n (k := 0) (by omega) (by omega), fun h3 e3 => ?_⟩
  have x3 : eqE wSc h h3 := by rw [e3, e2, e1]; exact eqE_sI (eqE_sI (eqE_sI (eqE_refl h) (Or.inl rfl)) (Or.inl rfl)) (Or.inr rfl)
  have g0 : gI h3 64 0 = nI W := by rw [e3, gI_o _ _ (by decide), e2, gI_k _ _ (by decide), e1]; exact gI_at _ _ _ _
  have g2 : gI h3 64 2 = nI G := by rw [e3, gI_o _ _ (by decide), e2]; exact gI_at _ _ _ _
  have n3 : ∀ i, i < 1 → gI h3 66 i = nI (nzF G i W) := fun i hi => by
    rw [show i = 0 from by omega, nzF_0, e3]
    exact gI_at _ _ _ _
  clear e1 e2 e3
  unfold w_X10_settle_22
  intro X hX
  have key : ∀ (n p : Nat) (g : hp), n + p = W → eqE wSc h g → gI g 64 0 = nI W → gI g 64 2 = nI G → (∀ i, i < (G + 1) ^ p → gI g 66 i = nI (nzF G i W)) → X (nI ((G + 1) ^ p), nI p, g) := by
    intro n
    induction n with
    | zero =>
      intro p g hpW xg w0 w2 vg
      have ep : p = W := by omega
      subst ep
      apply hX
      unfold w_X10_settle_b22
      rw [w0]
      refine ⟨fun _ h5 e5 => ?_, fun c => absurd (nI_le (Nat.le_refl _) (by omega)) c⟩
      have e5 : h5 = sI g 64 1 (nI ((G + 1) ^ p)) := e5
      refine hq h5 (by rw [e5]; exact eqE_sI xg (Or.inl rfl)) ⟨by rw [e5, gI_k _ _ (by decide)]; exact w0, by rw [e5]; exact gI_at _ _ _ _, by rw [e5, gI_k _ _ (by decide)]; exact w2⟩ (fun i hi => by rw [e5, gI_o _ _ (by decide)]; exact vg i hi)
    | succ n ih =>
      intro p g hpW xg w0 w2 vg
      have p1 := pow_W (G := G) (j := p) o4 (by omega)
      have p2 := pow_W (G := G) (j := p + 1) o4 (by omega)
      have p0 : 0 < (G + 1) ^ p := Nat.pow_pos (by omega)
      have pp : (G + 1) ^ p * (G + 1) = (G + 1) ^ (p + 1) := (Nat.pow_succ _ _).symm
      apply hX
      unfold w_X10_settle_b22
      rw [w0]
      refine ⟨fun c => absurd c (nI_ge (by omega) (by omega)), fun _ => ?_⟩
      show w_X10_settle_38 Q X (nI p) (nI ((G + 1) ^ p)) (nI ((G + 1) ^ p)) (nI ((G + 1) ^ p)) g
      unfold w_X10_settle_38
      intro Y hY
      have key2 : ∀ (m i : Nat) (g : hp), m + i = (G + 1) ^ (p + 1) → (G + 1) ^ p ≤ i → eqE wSc h g → gI g 64 0 = nI W → gI g 64 2 = nI G → (∀ j, j < i → gI g 66 j = nI (nzF G j W)) → Y (nI i, nI i, g) := by
        intro m
        induction m with
        | zero =>
          intro i g hi hp1 xg w0 w2 vg
          have ei : i = (G + 1) ^ (p + 1) := by omega
          apply hY
          unfold w_X10_settle_b38
          rw [w2, ← nI_succ, nI_mul (by omega) (by omega) (by omega), pp]
          refine ⟨fun _ u eu => ?_, fun c => absurd ?_ c⟩
          · rw [← nI_succ] at eu
            subst eu
            have := ih (p + 1) g (by omega) xg w0 w2 (by rw [← ei]; exact vg)
            rw [← ei] at this
            exact this
          · show nI ((G + 1) ^ (p + 1)) ≤ nI i
            rw [ei]
            exact nI_le (Nat.le_refl _) (by omega)
        | succ m ih2 =>
          intro i g hi hp1 xg w0 w2 vg
          have hmod : i % (G + 1) ^ p < (G + 1) ^ p := Nat.mod_lt _ p0
          apply hY
          unfold w_X10_settle_b38
          rw [w2, ← nI_succ, nI_mul (by omega) (by omega) (by omega), pp, nI_rem (by omega) p0 (by omega), ix_n (n := i) (by omega), ix_n (n := i % (G + 1) ^ p) (by omega), vg _ (by omega), ← nI_succ]
          refine ⟨fun c => absurd c (nI_ge (by omega) (by omega)), fun _ => ⟨fun c => absurd c (nI_ge (b := 10000) (by omega) (by omega)), fun _ => ⟨nI_ne0 (by omega) (by omega), in_n (by omega) (by omega), in_n (by omega) (by omega), fun h10 e10 y ey u eu => ?_⟩⟩⟩
          rw [← nI_succ] at ey eu
          subst ey eu
          obtain ⟨m1', m2', m3'⟩ := figW_mod hp1 (show i < (G + 1) ^ (p + 1) by omega)
          have hs := nzF_s m1' m2' m3' W
          rw [if_pos (show p < W by omega)] at hs
          refine ih2 (i + 1) h10 (by omega) (by omega) ?_ ?_ ?_ (fun j hj => ?_)
          · rw [e10]; exact eqE_sI xg (Or.inr rfl)
          · rw [e10, gI_o _ _ (by decide)]; exact w0
          · rw [e10, gI_o _ _ (by decide)]; exact w2
          · by_cases z : j = i
            · subst z
              rw [e10, gI_at, hs, nI_succ]
            · rw [e10, gI_k _ _ z]; exact vg j (by omega)
      exact key2 ((G + 1) ^ (p + 1) - (G + 1) ^ p) ((G + 1) ^ p) g (by rw [← pp, Nat.mul_add, Nat.mul_one]; omega) (Nat.le_refl _) xg w0 w2 vg
  have := key W 0 h3 (by omega) x3 g0 g2 (by rw [Nat.pow_zero]; exact n3)
  exact this
/-- what begin() writes -/
def bSc (a j : Nat) : Prop := (51 ≤ a ∧ a ≤ 62) ∨ (a = 0 ∧ (j = 7 ∨ j = 8)) ∨ a = 64 ∨ a = 66
theorem c_begin {h : hp} {o W G : Nat} {Q : hp → Prop} (t : cAt h o) (ho : isO o) (ok : okW W G) (g7 : gI h o 7 = nI W) (g8 : gI h o 8 = nI G) (hq : ∀ h1, eqE bSc h h1 → gI h1 51 0 = 0 → (∀ i, i < 3 → gI h1 (54 + 3 * i) 3 = 0) → gI h1 0 7 = -2 → gI h1 0 8 = 0 → cWld h1 W G → cNz h1 W G → Q h1) : w_X11_begin h Q := by
  unfold w_X11_begin w_X11_begin_0 w_X9_clear w_X9_clear_0
  intro h1 e1
  have x1 : eqE bSc h h1 := by rw [e1]; exact eqE_sI (eqE_refl h) (by unfold bSc; omega)
  have z1 : gI h1 51 0 = 0 := by rw [e1]; exact gI_at _ _ _ _
  clear e1
  unfold w_X11_begin_9
  intro X hX
  have key : ∀ (n k : Nat) (g : hp), n + k = 3 → eqE bSc h g → gI g 51 0 = 0 → (∀ i, i < k → gI g (54 + 3 * i) 3 = 0) → X (nI k, g) := by
    intro n
    induction n with
    | zero =>
      intro k g hk xg zg sg
      have ek : k = 3 := by omega
      subst ek
      apply hX
      refine ⟨fun _ h3 e3 h4 e4 => ?_, fun c => absurd (show (3 : Int32) ≤ nI 3 by decide) c⟩
      have e3 : h3 = sI g 0 7 (-2) := e3
      have x4 : eqE bSc h h4 := by rw [e4, e3]; exact eqE_sI (eqE_sI xg (by unfold bSc; omega)) (by unfold bSc; omega)
      have nb : ∀ j, ¬ bSc o j := fun j => by unfold bSc; rcases ho with q | q <;> subst q <;> omega
      have t4 : gR h4 0 = o := by rw [x4.2]; exact t.1
      rw [t4, eqE_I x4 (nb 7), eqE_I x4 (nb 8), g7, g8]
      refine ⟨t.2, t.2, c_settle ok (fun h5 x5 w5 n5 => hq h5 (eqE_trans x4 (eqE_w (fun a j q => by unfold wSc at q; unfold bSc; omega) x5)) ?_ (fun i hi => ?_) ?_ ?_ w5 n5)⟩
      · rw [eqE_I x5 (by unfold wSc; omega), e4, gI_o _ _ (by decide), e3, gI_o _ _ (by decide)]; exact zg
      · rw [eqE_I x5 (by unfold wSc; omega), e4, gI_o _ _ (by omega), e3, gI_o _ _ (by omega)]; exact sg i hi
      · rw [eqE_I x5 (by unfold wSc; omega), e4, gI_k _ _ (by decide), e3]; exact gI_at _ _ _ _
      · rw [eqE_I x5 (by unfold wSc; omega), e4]; exact gI_at _ _ _ _
    | succ n ih =>
      intro k g hk xg zg sg
      apply hX
      unfold w_X11_begin_b9
      rw [ix_n (n := k) (by omega)]
      refine ⟨fun c => absurd c (nI_ge (b := 3) (by omega) (by omega)), fun _ => ⟨in_n (by omega) (by omega), ?_⟩⟩
      unfold w_X9_clear w_X9_clear_0
      intro h9 e9
      refine ⟨in_n (by omega) (by omega), fun h11 e11 u eu => ?_⟩
      rw [← nI_succ] at eu
      subst eu
      refine ih (k + 1) h11 (by omega) ?_ ?_ (fun i hi => ?_)
      · rw [e11, e9]; exact eqE_sI (eqE_sI xg (by unfold bSc; omega)) (by unfold bSc; omega)
      · rw [e11, gI_o _ _ (by omega), e9, gI_o _ _ (by omega)]; exact zg
      · by_cases z : i = k
        · subst z
          rw [e11]; exact gI_at _ _ _ _
        · rw [e11, gI_o _ _ (by omega), e9, gI_o _ _ (by omega)]; exact sg i (by omega)
  exact key 3 0 h1 (by omega) x1 z1 (fun i h => by omega)
/-! the reference's plain(s) -/
def pSc (s a j : Nat) : Prop := ((a = 9 ∨ a = 12 ∨ a = 13 ∨ a = 17 ∨ a = 19 ∨ a = 20 ∨ a = 21) ∧ j = s) ∨ ((a = 22 ∨ a = 23) ∧ (j = 2 * s ∨ j = 2 * s + 1))
theorem m_plain {h : hp} {s : Nat} {Q : hp → Prop} (hs : s < 2) (hq : ∀ h1, eqE (pSc s) h h1 → gI h1 9 s = 0 → gI h1 12 s = 97 → gI h1 13 s = 0 → gI h1 17 s = 0 → gI h1 19 s = 3 → gI h1 20 s = 3 → gI h1 21 s = 0 → gI h1 22 (2 * s) = 0 → gI h1 23 (2 * s) = 0 → Q h1) : w_X12_plain h (nI s) Q := by
  have ins : vp_in (nI s) 2 := in_n hs (by omega)
  unfold w_X12_plain w_X12_plain_0
  rw [ix_n (n := s) (by omega)]
  refine ⟨ins, fun h1 e1 => ⟨ins, fun h2 e2 => ⟨ins, fun h3 e3 => ⟨ins, fun h4 e4 => ⟨ins, fun h5 e5 => ⟨ins, fun h6 e6 => ⟨ins, fun h7 e7 => ?_⟩⟩⟩⟩⟩⟩⟩
  have x7 : eqE (pSc s) h h7 := by
    rw [e7, e6, e5, e4, e3, e2, e1]
    exact eqE_sI (eqE_sI (eqE_sI (eqE_sI (eqE_sI (eqE_sI (eqE_sI (eqE_refl h) (by unfold pSc; omega)) (by unfold pSc; omega)) (by unfold pSc; omega)) (by unfold pSc; omega)) (by unfold pSc; omega)) (by unfold pSc; omega)) (by unfold pSc; omega)
  have v9 : gI h7 9 s = 0 := by rw [e7, gI_o _ _ (by decide), e6, gI_o _ _ (by decide), e5, gI_o _ _ (by decide), e4, gI_o _ _ (by decide), e3, gI_o _ _ (by decide), e2, gI_o _ _ (by decide), e1]; exact gI_at _ _ _ _
  have v12 : gI h7 12 s = 97 := by rw [e7, gI_o _ _ (by decide), e6, gI_o _ _ (by decide), e5, gI_o _ _ (by decide), e4, gI_o _ _ (by decide), e3, gI_o _ _ (by decide), e2]; exact gI_at _ _ _ _
  have v13 : gI h7 13 s = 0 := by rw [e7, gI_o _ _ (by decide), e6, gI_o _ _ (by decide), e5, gI_o _ _ (by decide), e4, gI_o _ _ (by decide), e3]; exact gI_at _ _ _ _
  have v17 : gI h7 17 s = 0 := by rw [e7, gI_o _ _ (by decide), e6, gI_o _ _ (by decide), e5, gI_o _ _ (by decide), e4]; exact gI_at _ _ _ _
  have v19 : gI h7 19 s = 3 := by rw [e7, gI_o _ _ (by decide), e6, gI_o _ _ (by decide), e5]; exact gI_at _ _ _ _
  have v20 : gI h7 20 s = 3 := by rw [e7, gI_o _ _ (by decide), e6]; exact gI_at _ _ _ _
  have v21 : gI h7 21 s = 0 := by rw [e7]; exact gI_at _ _ _ _
  clear e1 e2 e3 e4 e5 e6 e7
  unfold w_X12_plain_52
  intro X hX
  have key : ∀ (n k : Nat) (g : hp), n + k = 2 → eqE (pSc s) h g → eqE (fun a j => (a = 22 ∨ a = 23) ∧ (j = 2 * s ∨ j = 2 * s + 1)) h7 g → (0 < k → gI g 22 (2 * s) = 0 ∧ gI g 23 (2 * s) = 0) → X (nI k, g) := by
    intro n
    induction n with
    | zero =>
      intro k g hk xg yg zg
      have ek : k = 2 := by omega
      subst ek
      apply hX
      refine ⟨fun _ => hq g xg ?_ ?_ ?_ ?_ ?_ ?_ ?_ (zg (by omega)).1 (zg (by omega)).2, fun c => absurd (show (2 : Int32) ≤ nI 2 by decide) c⟩
      · rw [eqE_I yg (by omega)]; exact v9
      · rw [eqE_I yg (by omega)]; exact v12
      · rw [eqE_I yg (by omega)]; exact v13
      · rw [eqE_I yg (by omega)]; exact v17
      · rw [eqE_I yg (by omega)]; exact v19
      · rw [eqE_I yg (by omega)]; exact v20
      · rw [eqE_I yg (by omega)]; exact v21
    | succ n ih =>
      intro k g hk xg yg zg
      have e2s : 2 * nI s + nI k = nI (2 * s + k) := by rw [show (2 : Int32) = nI 2 from rfl, nI_mul (by omega) (by omega) (by omega), nI_add]
      apply hX
      unfold w_X12_plain_b52
      rw [e2s, ix_n (n := 2 * s + k) (by omega)]
      refine ⟨fun c => absurd c (nI_ge (b := 2) (by omega) (by omega)), fun _ => ⟨in_n (by omega) (by omega), fun h9 e9 => ⟨in_n (by omega) (by omega), fun h10 e10 u eu => ?_⟩⟩⟩
      rw [← nI_succ] at eu
      subst eu
      refine ih (k + 1) h10 (by omega) ?_ ?_ (fun _ => ?_)
      · rw [e10, e9]; exact eqE_sI (eqE_sI xg (by unfold pSc; omega)) (by unfold pSc; omega)
      · rw [e10, e9]; exact eqE_sI (eqE_sI yg ⟨Or.inl rfl, by omega⟩) ⟨Or.inr rfl, by omega⟩
      · by_cases z : k = 0
        · subst z
          rw [Nat.add_zero] at e9 e10
          rw [e10, gI_o _ _ (by decide), e9, gI_at]
          exact ⟨rfl, gI_at _ _ _ _⟩
        · obtain ⟨z1, z2⟩ := zg (by omega)
          rw [e10, gI_o _ _ (by decide), e9, gI_k _ _ (by omega), gI_k _ _ (by omega), gI_o _ _ (by decide)]
          exact ⟨z1, z2⟩
  exact key 2 0 h7 (by omega) x7 (eqE_refl h7) (fun h => by omega)
theorem dfL_wf : wfL dfL := by
  refine ⟨by decide, rfl, fun b hb => absurd hb (Nat.not_lt_zero b), ⟨by decide, fun k => if k = 1 then 1 else if k = 2 then 2 else if k = 3 then 1 else 0, rfl, rfl, fun c h1 h2 => ?_⟩, by decide, by decide⟩
  have h2 : c < 3 := h2
  have : c = 0 ∨ c = 1 ∨ c = 2 := by omega
  rcases this with q | q | q <;> subst q <;> decide
theorem pr97 : isPr 97 := ⟨⟨by decide, by decide⟩, fun k h1 h2 => (show ∀ k, k < 97 → 2 ≤ k → ¬ 97 % k = 0 by decide) k h2 h1⟩
/-! both as they are made -/
theorem wd_q {a b c d e f g : Int32} {v : Int64} {Q : Int64 → Prop} (ev : (let ap := fun (x : Int64) (y : Int32) => if y = 0 then x else 27 * x + ((y - 97) + 1).toInt64; ap (ap (ap (ap (ap (ap (ap 0 a) b) c) d) e) f) g) = v) (hq : Q v) : w_X12_word a b c d e f g Q := by
  unfold w_X12_word w_X12_word_0
  have ap : ∀ {x : Int64} {y : Int32} {Q : Int64 → Prop}, Q (if y = 0 then x else 27 * x + ((y - 97) + 1).toInt64) → w_X12_appends x y Q := by
    intro x y Q hq
    unfold w_X12_appends w_X12_appends_0
    exact ⟨fun n => by rw [if_neg n] at hq; exact hq, fun e => by rw [if_pos e] at hq; exact hq⟩
  refine ap (ap (ap (ap (ap (ap (ap ?_))))))
  rw [← ev] at hq
  exact hq
theorem m_init {Q : hp → Prop} (hq : ∀ hm, eqE (fun a j => pSc 0 a j ∨ a = 7) hM0 hm → gI hm 9 0 = 0 → gI hm 12 0 = 97 → gI hm 13 0 = 0 → gI hm 17 0 = 0 → gI hm 19 0 = 3 → gI hm 20 0 = 3 → gI hm 21 0 = 0 → gI hm 22 0 = 0 → gI hm 23 0 = 0 → (∀ i, i < 17 → gL hm 7 i = wrd i) → Q hm) : w_X12_init_403 Q hM0 := by
  unfold w_X12_init_403
  refine m_plain (s := 0) (by decide) (fun h1 x1 v9 v12 v13 v17 v19 v20 v21 v22 v23 => ?_)
  have x1 : eqE (fun a j => pSc 0 a j ∨ a = 7) hM0 h1 := eqE_w (fun a j q => Or.inl q) x1
  have fin : ∀ hm, (∀ a j, gI hm a j = gI h1 a j) → eqE (fun a j => pSc 0 a j ∨ a = 7) hM0 hm → (∀ i, i < 17 → gL hm 7 i = wrd i) → Q hm := fun hm g e w => hq hm e (by rw [g]; exact v9) (by rw [g]; exact v12) (by rw [g]; exact v13) (by rw [g]; exact v17) (by rw [g]; exact v19) (by rw [g]; exact v20) (by rw [g]; exact v21) (by rw [g]; exact v22) (by rw [g]; exact v23) w
  have st : ∀ {k : Nat} {r : Int32} {h h' : hp} {v : Int64}, r = nI k → k < 17 → h' = sL h 7 (ix r) v → v = wrd k → ((∀ a j, gI h a j = gI h1 a j) ∧ eqE (fun a j => pSc 0 a j ∨ a = 7) hM0 h ∧ ∀ i, i < k → gL h 7 i = wrd i) → ((∀ a j, gI h' a j = gI h1 a j) ∧ eqE (fun a j => pSc 0 a j ∨ a = 7) hM0 h' ∧ ∀ i, i < k + 1 → gL h' 7 i = wrd i) := by
    intro k r h h' v er hk e ev ⟨i1, i2, i3⟩
    subst er
    rw [ix_n (by omega)] at e
    refine ⟨fun a j => by rw [e, gI_sL]; exact i1 a j, by rw [e]; exact eqE_sL i2 (Or.inr rfl), fun i hi => ?_⟩
    by_cases c : i = k
    · subst c
      rw [e, gL_at]; exact ev
    · rw [e, gL_k _ _ c]; exact i3 i (by omega)
  have s0 : (∀ a j, gI h1 a j = gI h1 a j) ∧ eqE (fun a j => pSc 0 a j ∨ a = 7) hM0 h1 ∧ ∀ i, i < 0 → gL h1 7 i = wrd i := ⟨fun _ _ => rfl, x1, fun i hi => by omega⟩
  refine wd_q (v := wrd 0) (by decide) ⟨by unfold vp_in; decide, fun h4 e4 => ?_⟩
  have s1 := st (k := 0) rfl (by omega) e4 rfl s0
  refine wd_q (v := wrd 1) (by decide) ⟨by unfold vp_in; decide, fun h7 e7 => ?_⟩
  have s2 := st (k := 1) rfl (by omega) e7 rfl s1
  refine wd_q (v := wrd 2) (by decide) ⟨by unfold vp_in; decide, fun h10 e10 => ?_⟩
  have s3 := st (k := 2) rfl (by omega) e10 rfl s2
  refine wd_q (v := wrd 3) (by decide) ⟨by unfold vp_in; decide, fun h13 e13 => ?_⟩
  have s4 := st (k := 3) rfl (by omega) e13 rfl s3
  refine wd_q (v := wrd 4) (by decide) ⟨by unfold vp_in; decide, fun h16 e16 => ?_⟩
  have s5 := st (k := 4) rfl (by omega) e16 rfl s4
  refine wd_q (v := wrd 5) (by decide) ⟨by unfold vp_in; decide, fun h19 e19 => ?_⟩
  have s6 := st (k := 5) rfl (by omega) e19 rfl s5
  refine wd_q (v := wrd 6) (by decide) ⟨by unfold vp_in; decide, fun h22 e22 => ?_⟩
  have s7 := st (k := 6) rfl (by omega) e22 rfl s6
  refine wd_q (v := wrd 7) (by decide) ⟨by unfold vp_in; decide, fun h25 e25 => ?_⟩
  have s8 := st (k := 7) rfl (by omega) e25 rfl s7
  refine wd_q (v := wrd 8) (by decide) ⟨by unfold vp_in; decide, fun h28 e28 => ?_⟩
  have s9 := st (k := 8) rfl (by omega) e28 rfl s8
  refine wd_q (v := wrd 9) (by decide) ⟨by unfold vp_in; decide, fun h31 e31 => ?_⟩
  have s10 := st (k := 9) rfl (by omega) e31 rfl s9
  refine wd_q (v := wrd 10) (by decide) ⟨by unfold vp_in; decide, fun h34 e34 => ?_⟩
  have s11 := st (k := 10) rfl (by omega) e34 rfl s10
  refine wd_q (v := wrd 11) (by decide) ⟨by unfold vp_in; decide, fun h37 e37 => ?_⟩
  have s12 := st (k := 11) rfl (by omega) e37 rfl s11
  refine wd_q (v := wrd 12) (by decide) ⟨by unfold vp_in; decide, fun h40 e40 => ?_⟩
  have s13 := st (k := 12) rfl (by omega) e40 rfl s12
  refine wd_q (v := wrd 13) (by decide) ⟨by unfold vp_in; decide, fun h43 e43 => ?_⟩
  have s14 := st (k := 13) rfl (by omega) e43 rfl s13
  refine wd_q (v := wrd 14) (by decide) ⟨by unfold vp_in; decide, fun h46 e46 => ?_⟩
  have s15 := st (k := 14) rfl (by omega) e46 rfl s14
  refine wd_q (v := wrd 15) (by decide) ⟨by unfold vp_in; decide, fun h49 e49 => ?_⟩
  have s16 := st (k := 15) rfl (by omega) e49 rfl s15
  refine wd_q (v := wrd 16) (by decide) ⟨by unfold vp_in; decide, fun h52 e52 => ?_⟩
  have s17 := st (k := 16) rfl (by omega) e52 rfl s16
  exact fin h52 s17.1 s17.2.1 s17.2.2
theorem dfL_c {h : hp} (e : ∀ i j, (i = 19 ∨ i = 20 ∨ i = 21) → gI h i j = gI hInit i j) : cLaw 19 h dfL := by
  have r19 : ∀ j, gI h 19 j = gI hInit 19 j := fun j => e 19 j (Or.inl rfl)
  have r20 : ∀ j, gI h (19 + 1) j = gI hInit 20 j := fun j => e 20 j (Or.inr (Or.inl rfl))
  have r21 : ∀ j, gI h (19 + 2) j = gI hInit 21 j := fun j => e 21 j (Or.inr (Or.inr rfl))
  refine ⟨by rw [r19]; decide, fun b hb => absurd hb (Nat.not_lt_zero b), fun c h1 h2 => ?_, by rw [r20]; decide⟩
  have h2 : c < 3 := h2
  have : c = 0 ∨ c = 1 ∨ c = 2 := by omega
  unfold isStep
  rw [r20, r21]
  rcases this with q | q | q <;> subst q <;> refine ⟨by decide, fun z => ?_⟩
  · decide
  · decide
  · exact absurd z (by decide)
theorem rel_start {hc hm : hp} (xc : eqE bSc hInit hc) (z51 : gI hc 51 0 = 0) (zs : ∀ i, i < 3 → gI hc (54 + 3 * i) 3 = 0) (z7 : gI hc 0 7 = -2) (z8 : gI hc 0 8 = 0) (w : cWld hc 3 3) (n : cNz hc 3 3) (xm : eqE (fun a j => pSc 0 a j ∨ a = 7) hM0 hm) (v9 : gI hm 9 0 = 0) (v12 : gI hm 12 0 = 97) (v13 : gI hm 13 0 = 0) (v17 : gI hm 17 0 = 0) (v19 : gI hm 19 0 = 3) (v20 : gI hm 20 0 = 3) (v21 : gI hm 21 0 = 0) (v22 : gI hm 22 0 = 0) (v23 : gI hm 23 0 = 0) (wm : ∀ i, i < 17 → gL hm 7 i = wrd i) : RelW hc hm := by
  have rc : ∀ a j, ¬ bSc a j → gI hc a j = gI hInit a j := fun a j q => eqE_I xc q
  have rm : ∀ a j, ¬ (pSc 0 a j ∨ a = 7) → gI hm a j = gI hM0 a j := fun a j q => eqE_I xm q
  have b : ∀ a j, (15 ≤ a ∧ a ≤ 50) → ¬ bSc a j := fun a j q z => by unfold bSc at z; omega
  refine ⟨15, 0, 0, ⟨fun _ => 0, fun _ _ => 0, 97, 0, fun _ => 0, fun _ => 0, 0, fun _ => 0, 3, 3, 0, dfL, ⟨Or.inl rfl, ⟨by rw [xc.2]; rfl, by decide⟩, by rw [xc.2]; rfl, ⟨by rw [rm _ _ (by unfold pSc; omega)]; rfl, by decide⟩⟩, ⟨⟨by decide, fun r hr => by omega⟩, ⟨by rw [rc _ _ (b _ _ (by omega))]; decide, fun r hr => by omega⟩, v9, fun r hr => by omega⟩, ⟨⟨by decide, pr97, fun i hi => by omega⟩, ⟨⟨by rw [rc _ _ (b _ _ (by omega))]; decide, fun i hi => by omega⟩, by unfold cP; rw [rc _ _ (b _ _ (by omega))]; decide⟩, ⟨v13, fun i hi => by omega⟩, v12⟩, ⟨⟨by decide, fun k hk => by omega⟩, ⟨by rw [rc _ _ (b _ _ (by omega))]; decide, fun set hs => ?_⟩, v17, fun k hk => by omega⟩, ⟨⟨by decide, by decide, by decide, by decide⟩, w, n, by rw [rc _ _ (b _ _ (by omega))]; decide, by rw [rc _ _ (b _ _ (by omega))]; decide, v19, v20⟩, ⟨by decide, by rw [rc _ _ (b _ _ (by omega))]; decide, v21⟩, dfL_wf, dfL_c (fun i j hi => rc i j (b _ _ (by omega))), Or.inr ⟨by rw [v22, v23], rfl⟩⟩, ?_, ?_, ?_, ?_, ?_, ?_⟩
  · have hs : set < 1 := hs
    have e : set = 0 := by omega
    subst e
    rw [rc _ _ (b _ _ (by omega))]
    decide
  · exact ⟨0, fun _ => 0, ⟨by rw [rc _ _ (by unfold bSc; omega)]; decide, by decide, fun k hk => by omega⟩, ⟨by rw [rm _ _ (by unfold pSc; omega)]; rfl, by decide, fun k hk => by omega⟩, fun k hk => by omega⟩
  · exact ⟨0, fun _ => 0, fun _ => 0, by decide, ⟨z51, fun k hk => by omega⟩, ⟨by rw [rm _ _ (by unfold pSc; omega)]; rfl, fun k hk => by omega⟩⟩
  · exact ⟨fun _ => 0, fun i hi => ⟨Nat.zero_le _, zs i hi, by rw [rm _ _ (by unfold pSc; omega)]; rfl, fun q => absurd q (show ¬ (0 : Nat) = 1 by decide)⟩⟩
  · show gI hc 0 2 = gI hm 0 17
    rw [rc _ _ (by unfold bSc; omega), rm _ _ (by unfold pSc; omega)]
    decide
  · refine ⟨?_, Or.inl ⟨z7, ?_⟩⟩
    · rw [z8, rm _ _ (by unfold pSc; omega)]; rfl
    · rw [rm _ _ (by unfold pSc; omega)]; rfl
  · intro i hi
    refine ⟨?_, wm i hi⟩
    rw [eqE_L xc (by unfold bSc; omega)]
    rfl
/-! the start of the class's read -/
def lawPutO (o : Nat) (h : hp) (m : Nat) (k v : Int32) : hp := sI (sI (sI h (o + 1) m k) (o + 2) m v) o 2 (nI (m + 1))
theorem c_addO {o : Nat} {h : hp} {m : Nat} {k v : Int32} {Q : Int32 → hp → Prop} (e : gI h o 2 = nI m) (hm : m < 402) (hq : ∀ r, Q r (lawPutO o h m k v)) : w_X2_add o h k v Q := by
  unfold w_X2_add w_X2_add_0
  rw [e]
  refine ⟨fun _ => ⟨in_n (by omega) (by omega), fun h2 e2 => ?_⟩, fun c => absurd (nI_lt (a := m) (b := 402) (by omega) (by omega)) c⟩
  rw [ix_n (n := m) (by omega)] at e2
  subst e2
  rw [gI_o _ _ (by omega), e]
  refine ⟨in_n (by omega) (by omega), fun h3 e3 => ?_⟩
  rw [ix_n (n := m) (by omega)] at e3
  subst e3
  intro h4 e4
  rw [gI_o _ _ (by omega), gI_o _ _ (by omega), e, ← nI_succ] at e4
  subst e4
  exact hq _
theorem lawPutO_e {d m : Nat} {h h1 : hp} {k v : Int32} (e : eqE (scrC d) h h1) : eqE (scrC d) h (lawPutO (d + 4) h1 m k v) := eqE_sI (eqE_sI (eqE_sI e (by unfold scrC; omega)) (by unfold scrC; omega)) (by unfold scrC; omega)
theorem lawPutO_o {o m a j : Nat} {h : hp} {k v : Int32} (n : ¬ a = o + 1 ∧ ¬ a = o + 2 ∧ ¬ (a = o ∧ j = 2)) : gI (lawPutO o h m k v) a j = gI h a j := by
  unfold lawPutO
  rw [gI_sI, if_neg n.2.2, gI_o _ _ n.2.1, gI_o _ _ n.1]
theorem lawPutO_1 {o m j : Nat} {h : hp} {k v : Int32} : gI (lawPutO o h m k v) (o + 1) j = if j = m then k else gI h (o + 1) j := by
  unfold lawPutO
  rw [gI_o _ _ (by omega), gI_o _ _ (by omega), gI_sI]
  by_cases c : j = m
  · rw [if_pos ⟨rfl, c⟩, if_pos c]
  · rw [if_neg (fun q => c q.2), if_neg c]
theorem lawPutO_2 {o m j : Nat} {h : hp} {k v : Int32} : gI (lawPutO o h m k v) (o + 2) j = if j = m then v else gI h (o + 2) j := by
  unfold lawPutO
  rw [gI_o _ _ (by omega), gI_sI]
  by_cases c : j = m
  · rw [if_pos ⟨rfl, c⟩, if_pos c]
  · rw [if_neg (fun q => c q.2), if_neg c, gI_o _ _ (by omega)]
theorem c_clearT {h : hp} {d : Nat} {Q : hp → Prop} (hd : isO d) (hq : ∀ h1, eqE (scrC d) h h1 → gI h1 d 0 = 0 → gI h1 (d + 9) 0 = 0 → gI h1 (d + 9) 1 = 97 → gI h1 (d + 15) 0 = 0 → gI h1 (d + 16) 0 = 0 → gI h1 d 7 = 3 → gI h1 d 8 = 3 → gI h1 d 9 = 0 → cLaw (d + 4) h1 dfL → Q h1) : w_X7_clear d h Q := by
  have hd' := O18 hd
  unfold w_X7_clear w_X7_clear_0 w_X2_clear w_X2_clear_0 w_X6_clear w_X6_clear_0 w_X0_clear w_X0_clear_0
  intro h1 e1 h2 e2
  have x2 : eqE (scrC d) h h2 := by rw [e2, e1]; exact eqE_sI (eqE_sI (eqE_refl _) (by unfold scrC; omega)) (by unfold scrC; omega)
  have v2 : gI h2 d 0 = 0 := by rw [e2, gI_o _ _ (by omega), e1]; exact gI_at _ _ _ _
  have w2 : gI h2 (d + 4) 2 = nI 0 := by rw [e2]; exact gI_at _ _ _ _
  clear e1 e2
  refine c_addO w2 (by omega) (fun _ => c_addO (m := 1) (gI_at _ _ _ _) (by omega) (fun _ => c_addO (m := 2) (gI_at _ _ _ _) (by omega) (fun _ => c_addO (m := 3) (gI_at _ _ _ _) (by omega) (fun _ => ?_))))
  have x3 := lawPutO_e (m := 3) (k := 4) (v := 0) (lawPutO_e (m := 2) (k := 43) (v := 0) (lawPutO_e (m := 1) (k := 1) (v := 1) (lawPutO_e (m := 0) (k := 2) (v := 3) x2)))
  have o3 : ∀ a j, ¬ a = d + 4 + 1 ∧ ¬ a = d + 4 + 2 ∧ ¬ (a = d + 4 ∧ j = 2) → gI (lawPutO (d + 4) (lawPutO (d + 4) (lawPutO (d + 4) (lawPutO (d + 4) h2 0 2 3) 1 1 1) 2 43 0) 3 4 0) a j = gI h2 a j := fun a j n => by rw [lawPutO_o n, lawPutO_o n, lawPutO_o n, lawPutO_o n]
  have cl : ∀ g, (∀ a j, a = d + 4 ∨ a = d + 4 + 1 ∨ a = d + 4 + 2 → gI g a j = gI (lawPutO (d + 4) (lawPutO (d + 4) (lawPutO (d + 4) (lawPutO (d + 4) h2 0 2 3) 1 1 1) 2 43 0) 3 4 0) a j) → cLaw (d + 4) g dfL := fun g r => by
    refine ⟨by rw [r _ _ (by omega)]; exact gI_at _ _ _ _, fun b hb => absurd hb (Nat.not_lt_zero b), fun c h1 h2 => ?_, ?_⟩
    · have h2 : c < 3 := h2
      have : c = 0 ∨ c = 1 ∨ c = 2 := by omega
      unfold isStep
      rw [r _ _ (by omega), r _ _ (by omega), lawPutO_1, lawPutO_1, lawPutO_1, lawPutO_1, lawPutO_2, lawPutO_2, lawPutO_2, lawPutO_2]
      rcases this with q | q | q
      · subst q; exact ⟨rfl, fun _ => rfl⟩
      · subst q; exact ⟨rfl, fun _ => rfl⟩
      · subst q; exact ⟨rfl, fun z => absurd z (by decide)⟩
    · rw [r _ _ (by omega), lawPutO_1]; rfl
  generalize lawPutO (d + 4) (lawPutO (d + 4) (lawPutO (d + 4) (lawPutO (d + 4) h2 0 2 3) 1 1 1) 2 43 0) 3 4 0 = h3 at x3 o3 cl ⊢
  intro h10 e10 h11 e11 h12 e12
  refine ⟨by unfold vp_in; decide, fun h13 e13 h14 e14 h15 e15 h16 e16 => ?_⟩
  have e13 : h13 = sI h12 (d + 15 + 1) 0 0 := e13
  subst e16 e15 e14 e13 e12 e11 e10
  refine hq _ (eqE_sI (eqE_sI (eqE_sI (eqE_sI (eqE_sI (eqE_sI (eqE_sI x3 (by unfold scrC; omega)) (by unfold scrC; omega)) (by unfold scrC; omega)) (by unfold scrC; omega)) (by unfold scrC; omega)) (by unfold scrC; omega)) (by unfold scrC; omega)) ?_ ?_ ?_ ?_ ?_ ?_ ?_ (gI_at _ _ _ _) (cl _ (fun a j n => ?_))
  · rw [gI_k _ _ (by decide), gI_k _ _ (by decide), gI_k _ _ (by decide), gI_o _ _ (by omega), gI_o _ _ (by omega), gI_o _ _ (by omega), gI_o _ _ (by omega), o3 _ _ (by omega)]; exact v2
  · rw [gI_o _ _ (by omega), gI_o _ _ (by omega), gI_o _ _ (by omega), gI_o _ _ (by omega), gI_o _ _ (by omega), gI_k _ _ (by decide)]; exact gI_at _ _ _ _
  · rw [gI_o _ _ (by omega), gI_o _ _ (by omega), gI_o _ _ (by omega), gI_o _ _ (by omega), gI_o _ _ (by omega)]; exact gI_at _ _ _ _
  · rw [gI_o _ _ (by omega), gI_o _ _ (by omega), gI_o _ _ (by omega), gI_o _ _ (by omega)]; exact gI_at _ _ _ _
  · rw [gI_o _ _ (by omega), gI_o _ _ (by omega), gI_o _ _ (by omega)]; exact gI_at _ _ _ _
  · rw [gI_k _ _ (by decide), gI_k _ _ (by decide)]; exact gI_at _ _ _ _
  · rw [gI_k _ _ (by decide)]; exact gI_at _ _ _ _
  · rw [gI_o _ _ (by omega), gI_o _ _ (by omega), gI_o _ _ (by omega), gI_o _ _ (by omega), gI_o _ _ (by omega), gI_o _ _ (by omega), gI_o _ _ (by omega)]
/-! the start of the reference's -/
def preM (s : Nat) (a j : Nat) : Prop := (a = 0 ∧ (j = 2 ∨ j = 4 ∨ j = 10 ∨ j = 11 ∨ j = 12 ∨ j = 13 ∨ j = 15 ∨ j = 19 ∨ j = 20 ∨ j = 37 ∨ j = 43)) ∨ (2 ≤ a ∧ a ≤ 6) ∨ pSc s a j
theorem m_pre {h : hp} {n s : Nat} {f : Nat → Int32} {E : hp → Prop} (tp : aTape 2 h n f) (hb : isBy f n) (hw : ∀ i, i < 17 → gL h 7 i = wrd i) (hs : s < 2) (e18 : gI h 0 18 = nI s) (hE : ∀ h1 c, eqE (preM (1 - s)) h h1 → mTk h1 f n c → gI h1 0 2 = 0 → gI h1 0 11 = 0 → gI h1 0 12 = 0 → gI h1 0 13 = 0 → gI h1 0 15 = 0 → gI h1 0 19 = nI (1 - s) → gI h1 0 20 = 0 → gI h1 0 37 = nI (130 * (1 - s)) → gI h1 0 43 = nI (420 * (1 - s)) → gI h1 9 (1 - s) = 0 → gI h1 12 (1 - s) = 97 → gI h1 13 (1 - s) = 0 → gI h1 17 (1 - s) = 0 → gI h1 19 (1 - s) = 3 → gI h1 20 (1 - s) = 3 → gI h1 21 (1 - s) = 0 → gI h1 22 (2 * (1 - s)) = 0 → gI h1 23 (2 * (1 - s)) = 0 → E h1) : preR h E := by
  obtain ⟨t1, t2, t3⟩ := tp
  unfold preR
  intro h1 e1
  have x1 : eqE (preM (1 - s)) h h1 := by rw [e1]; exact eqE_sI (eqE_refl _) (by unfold preM; omega)
  have v1 : gI h1 0 4 = nI n := by rw [e1, t1]; exact gI_at _ _ _ _
  clear e1
  intro X hX
  have key : ∀ m k (g : hp), m + k = n → eqE (preM (1 - s)) h g → gI g 0 4 = nI n → (∀ i, i < k → gI g 2 i = f i) → X (nI k, g) := by
    intro m
    induction m with
    | zero =>
      intro k g hk e g4 vs
      have ek : k = n := by omega
      subst ek
      apply hX
      unfold preF
      refine ⟨fun _ h3 e3 => ?_, fun c => absurd (show gI g 0 4 ≤ nI k by rw [g4]; exact nI_le (Nat.le_refl _) (by omega)) c⟩
      have e3 : h3 = sI g 0 2 0 := e3
      have x3 : eqE (preM (1 - s)) h h3 := by rw [e3]; exact eqE_sI e (by unfold preM; omega)
      have a3 : aText h3 k f := ⟨by rw [e3, gI_k _ _ (by decide)]; exact g4, t2, fun i hi => by rw [e3, gI_o _ _ (by decide)]; exact vs i hi⟩
      have z2 : gI h3 0 2 = 0 := by rw [e3]; exact gI_at _ _ _ _
      clear e3
      unfold preEnd
      refine m_cut a3 hb (fun i hi => by rw [eqE_L x3 (by unfold preM pSc; omega)]; exact hw i hi) (fun h4 c x4 mk h5 e5 h6 e6 h7 e7 h8 e8 h9 e9 h10 e10 => ?_)
      have x4' : eqE (preM (1 - s)) h h4 := eqE_trans x3 (eqE_w (fun a j q => by unfold cutM at q; unfold preM; omega) x4)
      have q18 : gI h8 0 18 = nI s := by rw [e8, gI_k _ _ (by decide), e7, gI_k _ _ (by decide), e6, gI_k _ _ (by decide), e5, gI_k _ _ (by decide), eqE_I x4' (by unfold preM pSc; omega)]; exact e18
      rw [q18, show (1 : Int32) = nI 1 from rfl, nI_sub (by omega) (by omega)] at e9
      have x10 : eqE (preM (1 - s)) h h10 := by rw [e10, e9, e8, e7, e6, e5]; exact eqE_sI (eqE_sI (eqE_sI (eqE_sI (eqE_sI (eqE_sI x4' (by unfold preM; omega)) (by unfold preM; omega)) (by unfold preM; omega)) (by unfold preM; omega)) (by unfold preM; omega)) (by unfold preM; omega)
      have y10 : eqE (fun a j => a = 0 ∧ (j = 11 ∨ j = 12 ∨ j = 13 ∨ j = 15 ∨ j = 19 ∨ j = 20)) h4 h10 := by rw [e10, e9, e8, e7, e6, e5]; exact eqE_sI (eqE_sI (eqE_sI (eqE_sI (eqE_sI (eqE_sI (eqE_refl _) (by omega)) (by omega)) (by omega)) (by omega)) (by omega)) (by omega)
      have r11 : gI h10 0 11 = 0 := by rw [e10, gI_k _ _ (by decide), e9, gI_k _ _ (by decide), e8, gI_k _ _ (by decide), e7, gI_k _ _ (by decide), e6, gI_k _ _ (by decide), e5]; exact gI_at _ _ _ _
      have r12 : gI h10 0 12 = 0 := by rw [e10, gI_k _ _ (by decide), e9, gI_k _ _ (by decide), e8, gI_k _ _ (by decide), e7, gI_k _ _ (by decide), e6]; exact gI_at _ _ _ _
      have r13 : gI h10 0 13 = 0 := by rw [e10, gI_k _ _ (by decide), e9, gI_k _ _ (by decide), e8, gI_k _ _ (by decide), e7]; exact gI_at _ _ _ _
      have r15 : gI h10 0 15 = 0 := by rw [e10, gI_k _ _ (by decide), e9, gI_k _ _ (by decide), e8]; exact gI_at _ _ _ _
      have r19 : gI h10 0 19 = nI (1 - s) := by rw [e10, gI_k _ _ (by decide), e9]; exact gI_at _ _ _ _
      have r20 : gI h10 0 20 = 0 := by rw [e10]; exact gI_at _ _ _ _
      have r2 : gI h10 0 2 = 0 := by rw [eqE_I y10 (by omega), eqE_I x4 (by unfold cutM; omega)]; exact z2
      clear e5 e6 e7 e8 e9 e10
      rw [r19]
      refine m_plain (s := 1 - s) (by omega) (fun h11 x11 p9 p12 p13 p17 p19 p20 p21 p22 p23 h12 e12 h13 e13 => ?_)
      have s19 : gI h11 0 19 = nI (1 - s) := by rw [eqE_I x11 (by unfold pSc; omega)]; exact r19
      rw [s19, show (130 : Int32) = nI 130 from rfl, nI_mul (by omega) (by omega) (by omega)] at e12
      have s19' : gI h12 0 19 = nI (1 - s) := by rw [e12, gI_k _ _ (by decide)]; exact s19
      rw [s19', show (420 : Int32) = nI 420 from rfl, nI_mul (by omega) (by omega) (by omega)] at e13
      have y13 : eqE (fun a j => pSc (1 - s) a j ∨ (a = 0 ∧ (j = 37 ∨ j = 43))) h10 h13 := by rw [e13, e12]; exact eqE_sI (eqE_sI (eqE_w (fun a j q => Or.inl q) x11) (by omega)) (by omega)
      have K : ∀ j, ¬ (j = 37 ∨ j = 43) → gI h13 0 j = gI h10 0 j := fun j n => eqE_I y13 (by unfold pSc; omega)
      have K2 : ∀ a j, ¬ a = 0 → gI h13 a j = gI h11 a j := fun a j n => by rw [e13, gI_o _ _ n, e12, gI_o _ _ n]
      have z43 : eqE (fun a j => (a = 0 ∧ ¬ j = 10) ∨ (9 ≤ a ∧ a ≤ 23)) h4 h13 := eqE_trans (eqE_w (fun a j (q : a = 0 ∧ (j = 11 ∨ j = 12 ∨ j = 13 ∨ j = 15 ∨ j = 19 ∨ j = 20)) => by show (a = 0 ∧ ¬ j = 10) ∨ (9 ≤ a ∧ a ≤ 23); omega) y10) (eqE_w (fun a j (q : pSc (1 - s) a j ∨ (a = 0 ∧ (j = 37 ∨ j = 43))) => by show (a = 0 ∧ ¬ j = 10) ∨ (9 ≤ a ∧ a ≤ 23); unfold pSc at q; omega) y13)
      obtain ⟨mk1, mk2, mk3⟩ := mk
      refine hE h13 c (eqE_trans x10 (eqE_w (fun a j q => q.elim (fun z => Or.inr (Or.inr z)) (fun z => Or.inl ⟨z.1, by omega⟩)) y13)) ⟨mk1, fun i hi => ?_, fun hc => ?_⟩ (by rw [K _ (by omega)]; exact r2) (by rw [K _ (by omega)]; exact r11) (by rw [K _ (by omega)]; exact r12) (by rw [K _ (by omega)]; exact r13) (by rw [K _ (by omega)]; exact r15) (by rw [K _ (by omega)]; exact r19) (by rw [K _ (by omega)]; exact r20) (by rw [e13, gI_k _ _ (by decide), e12]; exact gI_at _ _ _ _) (by rw [e13]; exact gI_at _ _ _ _) (by rw [K2 _ _ (by decide)]; exact p9) (by rw [K2 _ _ (by decide)]; exact p12) (by rw [K2 _ _ (by decide)]; exact p13) (by rw [K2 _ _ (by decide)]; exact p17) (by rw [K2 _ _ (by decide)]; exact p19) (by rw [K2 _ _ (by decide)]; exact p20) (by rw [K2 _ _ (by decide)]; exact p21) (by rw [K2 _ _ (by decide)]; exact p22) (by rw [K2 _ _ (by decide)]; exact p23)
      · rw [eqE_I z43 (by omega), eqE_I z43 (by omega), eqE_I z43 (by omega), eqE_L z43 (by omega)]; exact mk2 i hi
      · rw [eqE_I z43 (by omega), eqE_I z43 (by omega)]; exact mk3 hc
    | succ m ih =>
      intro k g hk e g4 vs
      have b := hb k (by omega)
      have gk : gI g 1 k = f k := by rw [eqE_I e (by unfold preM pSc; omega)]; exact t3 k (by omega)
      apply hX
      unfold preF
      show (gI g 0 4 ≤ nI k → _) ∧ (¬ gI g 0 4 ≤ nI k → vp_in (nI k) 2000 ∧ (vp_in (nI k) 2000 ∧ ∀ h14, h14 = sI g 2 (ix (nI k)) (jb (gI g 1 (ix (nI k)))) → ∀ x1_15, x1_15 = nI k + 1 → X (x1_15, h14)))
      rw [g4, ix_n (n := k) (by omega), gk, jb_id b.1 b.2]
      refine ⟨fun c => absurd c (nI_ge (by omega) (by omega)), fun _ => ⟨in_n (by omega) (by omega), in_n (by omega) (by omega), fun h14 e14 y ey => ?_⟩⟩
      rw [← nI_succ] at ey
      subst e14 ey
      refine ih (k + 1) _ (by omega) (eqE_sI e (by unfold preM; omega)) (by rw [gI_o _ _ (by decide)]; exact g4) (fun i hi => ?_)
      by_cases c : i = k
      · subst c; exact gI_at _ _ _ _
      · rw [gI_k _ _ c]; exact vs i (by omega)
  exact key n 0 h1 (by omega) x1 v1 (fun i hi => absurd hi (Nat.not_lt_zero i))
/-! the pair read -/
def liveC (o : Nat) (a _j : Nat) : Prop := (o ≤ a ∧ a ≤ o + 6) ∨ (o + 9 ≤ a ∧ a ≤ o + 12) ∨ a = o + 15 ∨ a = o + 16 ∨ a = 64 ∨ a = 66
def liveM (s : Nat) (a j : Nat) : Prop := (a = 0 ∧ j = 18) ∨ ((a = 9 ∨ a = 12 ∨ a = 13 ∨ a = 17 ∨ a = 19 ∨ a = 20 ∨ a = 21) ∧ j = s) ∨ (a = 10 ∧ 6 * s ≤ j ∧ j < 6 * s + 6) ∨ (a = 11 ∧ 36 * s ≤ j ∧ j < 36 * s + 36) ∨ ((a = 14 ∨ a = 15 ∨ a = 16) ∧ 8 * s ≤ j ∧ j < 8 * s + 8) ∨ (a = 18 ∧ 9 * s ≤ j ∧ j < 9 * s + 9) ∨ kAsM s (130 * s + 130) (420 * s + 420) a j
theorem Rtx_f2 {hc hm hc1 hm1 : hp} {o s R : Nat} (ec : agI (liveC o) hc hc1) (er : ∀ i, gR hc1 i = gR hc i) (em : agI (liveM s) hm hm1) (r : Rtx hc hm o s R) : Rtx hc1 hm1 o s R := by
  obtain ⟨S, N, P, NS, AT, WH, K, C, W, G, Lr, L, ⟨ho, t1, t2, t3⟩, ⟨a1, a2, a3⟩, ⟨b1, b2, b3, b4⟩, ⟨c1, c2, c3⟩, ⟨d1, d2, d3, d4, d5, d6⟩, ⟨e1, e2, e3⟩, f1, f2, f3⟩ := r
  have rc : ∀ k j, (k ≤ 6 ∨ (9 ≤ k ∧ k ≤ 12) ∨ k = 15 ∨ k = 16) → gI hc1 (o + k) j = gI hc (o + k) j := fun k j hk => (ec _ _ (by unfold liveC; omega)).1
  have rc0 : ∀ j, gI hc1 o j = gI hc o j := fun j => rc 0 j (by omega)
  have r64 : ∀ j, gI hc1 64 j = gI hc 64 j := fun j => (ec _ _ (by unfold liveC; omega)).1
  have r66 : ∀ j, gI hc1 66 j = gI hc 66 j := fun j => (ec _ _ (by unfold liveC; omega)).1
  have r18 : gI hm1 0 18 = gI hm 0 18 := (em _ _ (Or.inl ⟨rfl, rfl⟩)).1
  have rs : ∀ a, (a = 9 ∨ a = 12 ∨ a = 13 ∨ a = 17 ∨ a = 19 ∨ a = 20 ∨ a = 21) → gI hm1 a s = gI hm a s := fun a ha => (em _ _ (Or.inr (Or.inl ⟨ha, rfl⟩))).1
  have q1 : ∀ j, gI hc1 (o + 1) j = gI hc (o + 1) j := fun j => rc 1 j (by omega)
  have q3 : ∀ j, gI hc1 (o + 3) j = gI hc (o + 3) j := fun j => rc 3 j (by omega)
  have q4 : ∀ j, gI hc1 (o + 4) j = gI hc (o + 4) j := fun j => rc 4 j (by omega)
  have q5 : ∀ j, gI hc1 (o + 4 + 1) j = gI hc (o + 4 + 1) j := fun j => rc 5 j (by omega)
  have q6 : ∀ j, gI hc1 (o + 4 + 2) j = gI hc (o + 4 + 2) j := fun j => rc 6 j (by omega)
  have q9 : ∀ j, gI hc1 (o + 9) j = gI hc (o + 9) j := fun j => rc 9 j (by omega)
  have q10 : ∀ j, gI hc1 (o + 9 + 1) j = gI hc (o + 9 + 1) j := fun j => rc 10 j (by omega)
  have q12 : ∀ j, gI hc1 (o + 9 + 3) j = gI hc (o + 9 + 3) j := fun j => rc 12 j (by omega)
  have q15 : ∀ j, gI hc1 (o + 15) j = gI hc (o + 15) j := fun j => rc 15 j (by omega)
  have q16 : ∀ j, gI hc1 (o + 16) j = gI hc (o + 16) j := fun j => rc 16 j (by omega)
  refine ⟨S, N, P, NS, AT, WH, K, C, W, G, Lr, L, ⟨ho, ⟨by rw [er]; exact t1.1, t1.2⟩, by rw [er]; exact t2, ⟨by rw [r18]; exact t3.1, t3.2⟩⟩, ⟨a1, ?_, ?_⟩, ⟨b1, ⟨?_, ?_⟩, ?_, ?_⟩, ⟨c1, ?_, ?_⟩, ⟨d1, ?_, ?_, ?_, ?_, ?_⟩, ⟨e1, ?_, ?_⟩, f1, ?_, ?_⟩
  · unfold cRows; simp only [rc0, q1, q3]; exact a2
  · refine ⟨by rw [rs 9 (by omega)]; exact a3.1, fun r hr => ⟨?_, fun k hk => ?_⟩⟩
    · have := a1.1
      rw [(em 10 _ (Or.inr (Or.inr (Or.inl ⟨rfl, by omega, by omega⟩)))).1]; exact (a3.2 r hr).1
    · have := a1.1
      have := (a1.2 r hr).1
      rw [(em 11 _ (Or.inr (Or.inr (Or.inr (Or.inl ⟨rfl, by omega, by omega⟩))))).1]; exact (a3.2 r hr).2 k hk
  · unfold cSh; simp only [q9, q10, q12]; exact b2.1
  · unfold cP; rw [q9]; exact b2.2
  · refine ⟨by rw [rs 13 (by omega)]; exact b3.1, fun i hi => ?_⟩
    have := b1.1
    rw [(em 14 _ (Or.inr (Or.inr (Or.inr (Or.inr (Or.inl ⟨by omega, by omega, by omega⟩)))))).1, (em 15 _ (Or.inr (Or.inr (Or.inr (Or.inr (Or.inl ⟨by omega, by omega, by omega⟩)))))).1]
    exact b3.2 i hi
  · rw [rs 12 (by omega)]; exact b4
  · unfold cBags; simp only [q15, q16]; exact c2
  · refine ⟨by rw [rs 17 (by omega)]; exact c3.1, fun k hk => ?_⟩
    have := c1.1
    rw [(em 18 _ (Or.inr (Or.inr (Or.inr (Or.inr (Or.inr (Or.inl ⟨rfl, by omega, by omega⟩))))))).1]; exact c3.2 k hk
  · unfold cWld; simp only [r64]; exact d2
  · unfold cNz; simp only [r66]; exact d3
  · rw [rc0]; exact d4
  · rw [rc0]; exact d5
  · exact ⟨by rw [rs 19 (by omega)]; exact d6.1, by rw [rs 20 (by omega)]; exact d6.2⟩
  · rw [rc0]; exact e2
  · rw [rs 21 (by omega)]; exact e3
  · unfold cLaw isStep; simp only [q4, q5, q6]; exact f2
  · exact mAskR_f f1 (agI_w em (fun a j q => Or.inr (Or.inr (Or.inr (Or.inr (Or.inr (Or.inr q))))))) f3
def rdC (d : Nat) (a j : Nat) : Prop := scrC d a j ∨ a = 4 ∨ a = 5 ∨ a = 6 ∨ (a = 3 ∧ j = 4)
def rdM (s : Nat) (a j : Nat) : Prop := preM s a j ∨ scrM s a j
theorem rdM_n {s s' a j : Nat} (hs : s < 2) (hs' : s' = 1 - s) (q : liveM s a j) : ¬ rdM s' a j := by
  have h2 : (s = 0 ∧ s' = 1) ∨ (s = 1 ∧ s' = 0) := by omega
  intro z
  rcases q with ⟨q, r⟩ | ⟨q, r⟩ | ⟨q, r⟩ | ⟨q, r⟩ | ⟨q, r⟩ | ⟨q, r⟩ | q
  · subst q; rcases z with z | z
    · unfold preM pSc at z; omega
    · rcases z with z | z | z | z | z | z | z | z | z | z | z | z | z <;> omega
  · rcases z with z | z
    · unfold preM pSc at z; omega
    · rcases z with z | z | z | z | z | z | z | z | z | z | z | z | z <;> omega
  · rcases z with z | z
    · unfold preM pSc at z; omega
    · rcases z with z | z | z | z | z | z | z | z | z | z | z | z | z <;> omega
  · rcases z with z | z
    · unfold preM pSc at z; omega
    · rcases z with z | z | z | z | z | z | z | z | z | z | z | z | z <;> omega
  · rcases z with z | z
    · unfold preM pSc at z; omega
    · rcases z with z | z | z | z | z | z | z | z | z | z | z | z | z <;> omega
  · rcases z with z | z
    · unfold preM pSc at z; omega
    · rcases z with z | z | z | z | z | z | z | z | z | z | z | z | z <;> omega
  · rcases q with ⟨q, r⟩ | ⟨q, r⟩ | ⟨q, r⟩ <;> rcases z with z | z
    · unfold preM pSc at z; omega
    · rcases z with z | z | z | z | z | z | z | z | z | z | z | z | z <;> omega
    · unfold preM pSc at z; omega
    · rcases z with z | z | z | z | z | z | z | z | z | z | z | z | z <;> omega
    · unfold preM pSc at z; omega
    · rcases z with z | z | z | z | z | z | z | z | z | z | z | z | z <;> omega
theorem rdM_0 {s a j : Nat} (z : rdM s a j) : (a = 0 ∧ ((j = 2 ∨ j = 4 ∨ j = 10) ∨ (11 ≤ j ∧ j ≤ 16) ∨ j = 19 ∨ j = 20 ∨ j = 37 ∨ j = 43 ∨ j = 47 ∨ j = 50)) ∨ (2 ≤ a ∧ a ≤ 6) ∨ (8 ≤ a ∧ a ≤ 33) := by
  rcases z with z | z
  · unfold preM pSc at z; omega
  · rcases z with z | z | z | z | z | z | z | z | z | z | z | z | z <;> omega
/-- a fault: all stays, but the tape is bare and the place is told -/
theorem Rel_fault {hc hm hcG hmG : hp} {o s R : Nat} {p : Int32} (T : Rtx hc hm o s R) (to : rTo hc hm) (sl : rSl hc hm) (hi : rHi hc hm R) (wd : rWd hc hm) (fc : eqE (rdC (48 - o)) hc hcG) (fm : eqE (rdM (1 - s)) hm hmG) (z2 : gI hmG 0 2 = 0) : RelW (sI (sI hcG 0 1 0) 0 2 p) (sI hmG 0 17 p) := by
  have ho : isO o := by obtain ⟨_, _, _, _, _, _, _, _, _, _, _, _, ⟨ho, _⟩, _⟩ := T; exact ho
  have hs : s < 2 := by obtain ⟨_, _, _, _, _, _, _, _, _, _, _, _, ⟨_, _, _, t3⟩, _⟩ := T; exact t3.2
  have hO := O18 ho
  have ac : ∀ X : Nat → Nat → Prop, (∀ a j, X a j → ¬ rdC (48 - o) a j ∧ ¬ (a = 0 ∧ (j = 1 ∨ j = 2))) → agI X hc (sI (sI hcG 0 1 0) 0 2 p) := fun X q => agI_sI (agI_sI (agI_e fc (fun a j z => (q a j z).1)) (fun z => (q _ _ z).2 (by omega))) (fun z => (q _ _ z).2 (by omega))
  have am : ∀ X : Nat → Nat → Prop, (∀ a j, X a j → ¬ rdM (1 - s) a j ∧ ¬ (a = 0 ∧ j = 17)) → agI X hm (sI hmG 0 17 p) := fun X q => agI_sI (agI_e fm (fun a j z => (q a j z).1)) (fun z => (q _ _ z).2 (by omega))
  have cn : ∀ a j, (a = 0 ∨ (51 ≤ a ∧ a ≤ 66) ∨ (o ≤ a ∧ a ≤ o + 17)) → ¬ rdC (48 - o) a j := fun a j h => by unfold rdC scrC; omega
  have mn : ∀ a j, (38 ≤ a ∨ (a = 0 ∧ (17 ≤ j ∧ j ≤ 18 ∨ 57 ≤ j))) → ¬ rdM (1 - s) a j := fun a j h z => by have := rdM_0 z; omega
  refine ⟨o, s, R, Rtx_f2 (ac _ (fun a j q => ⟨cn a j (by unfold liveC at q; omega), by unfold liveC at q; omega⟩)) (fun i => fc.2 i) (am _ (fun a j q => ⟨rdM_n hs rfl q, fun z => by
    have := z.1
    have := z.2
    rcases q with q | q | q | q | q | q | q
    · omega
    · omega
    · omega
    · omega
    · omega
    · omega
    · unfold kAsM at q; omega⟩)) T, ⟨0, fun _ => 0, ⟨?_, by omega, fun k hk => by omega⟩, ⟨?_, by omega, fun k hk => by omega⟩, fun k hk => by omega⟩, rTo_f (ac _ (fun a j q => ⟨cn a j (by unfold kToC at q; omega), by unfold kToC at q; omega⟩)) (am _ (fun a j q => ⟨mn a j (by unfold kToM at q; omega), by unfold kToM at q; omega⟩)) to, rSl_f (ac _ (fun a j q => ⟨cn a j (by unfold kSlC at q; omega), by unfold kSlC at q; omega⟩)) (am _ (fun a j q => ⟨mn a j (by unfold kSlM at q; omega), by unfold kSlM at q; omega⟩)) sl, ?_, rHi_f (ac _ (fun a j q => ⟨cn a j (by unfold kHiC at q; omega), by unfold kHiC at q; omega⟩)) (am _ (fun a j q => ⟨mn a j (by unfold kHiM at q; omega), by unfold kHiM at q; omega⟩)) hi, rWd_f (fun i => ?_) (fun i => ?_) wd⟩
  · rw [gI_k _ _ (by decide)]; exact gI_at _ _ _ _
  · rw [gI_k _ _ (by decide)]; exact z2
  · show gI (sI (sI hcG 0 1 0) 0 2 p) 0 2 = gI (sI hmG 0 17 p) 0 17
    rw [gI_at, gI_at]
  · rw [gL_sI, gL_sI, eqE_L fc (by unfold rdC scrC; omega)]
  · rw [gL_sI, eqE_L fm (fun z => by have := rdM_0 z; omega)]
theorem m_297 {h : hp} {Q : Int32 → hp → Prop} (hq : Q 0 (sI (sI (sI h 45 0 (jz 0)) 45 1 (jz 0)) 45 2 (jz 0))) : w_X12_read_297 Q 0 h := fun Y hY => by
  have l3 : Y (3, sI (sI (sI h 45 0 (jz 0)) 45 1 (jz 0)) 45 2 (jz 0)) := hY _ ⟨fun _ => hq, fun z => absurd (show (3 : Int32) ≤ 3 by decide) z⟩
  have l2 : Y (2, sI (sI h 45 0 (jz 0)) 45 1 (jz 0)) := hY _ ⟨fun z => absurd z (show ¬ (3 : Int32) ≤ 2 by decide), fun _ => ⟨show vp_in 2 3 by unfold vp_in; decide, fun g e y ey => by subst e ey; exact l3⟩⟩
  have l1 : Y (1, sI h 45 0 (jz 0)) := hY _ ⟨fun z => absurd z (show ¬ (3 : Int32) ≤ 1 by decide), fun _ => ⟨show vp_in 1 3 by unfold vp_in; decide, fun g e y ey => by subst e ey; exact l2⟩⟩
  exact hY _ ⟨fun z => absurd z (show ¬ (3 : Int32) ≤ 0 by decide), fun _ => ⟨show vp_in 0 3 by unfold vp_in; decide, fun g e y ey => by subst e ey; exact l1⟩⟩
theorem q_read : pp_read RelW := fun hc hm hR Q hq => by
  obtain ⟨o, s, R, T0, ⟨n, f, tp1, tp2, tpb⟩, to, sl, pl, hi, wd⟩ := hR
  have T0' := T0
  obtain ⟨_, _, _, _, _, _, _, _, _, _, _, _, ⟨ho, t1, t2, t3⟩, _⟩ := T0'
  have hO := O18 ho
  have hs := t3.2
  obtain ⟨d, ed⟩ : ∃ d, d = 48 - o := ⟨_, rfl⟩
  obtain ⟨s', es⟩ : ∃ s', s' = 1 - s := ⟨_, rfl⟩
  have hd : isO d := by rcases hO with q | q <;> subst q <;> subst ed
                        · exact Or.inr rfl
                        · exact Or.inl rfl
  have hd' := O18 hd
  have gr : gR hc 1 = d := by rw [ed]; exact t2
  have hs' : s' < 2 := by omega
  -- the reference's start
  obtain ⟨hm0, ⟨c', x0, mk, y2, y11, y12, y13, y15, y19, y20, y37, y43, y9, yp, ysh, yb, yw, yg, yl, y22, y23⟩, kE⟩ := DG_pre hm (fun h1 => ∃ c, eqE (preM s') hm h1 ∧ mTk h1 f n c ∧ gI h1 0 2 = 0 ∧ gI h1 0 11 = 0 ∧ gI h1 0 12 = 0 ∧ gI h1 0 13 = 0 ∧ gI h1 0 15 = 0 ∧ gI h1 0 19 = nI s' ∧ gI h1 0 20 = 0 ∧ gI h1 0 37 = nI (130 * s') ∧ gI h1 0 43 = nI (420 * s') ∧ gI h1 9 s' = 0 ∧ gI h1 12 s' = 97 ∧ gI h1 13 s' = 0 ∧ gI h1 17 s' = 0 ∧ gI h1 19 s' = 3 ∧ gI h1 20 s' = 3 ∧ gI h1 21 s' = 0 ∧ gI h1 22 (2 * s') = 0 ∧ gI h1 23 (2 * s') = 0) (m_pre tp2 tpb (fun i h => (wd i h).2) hs t3.1 (fun h1 c a1 a2 a3 a4 a5 a6 a7 a8 a9 a10 a11 a12 a13 a14 a15 a16 a17 a18 a19 a20 => by rw [es]; exact ⟨c, a1, a2, a3, a4, a5, a6, a7, a8, a9, a10, a11, a12, a13, a14, a15, a16, a17, a18, a19, a20⟩))
  -- the class's
  unfold w_X11_read w_X11_read_0
  rw [tp1.1]
  unfold w_X5_readDraft w_X5_readDraft_0
  rw [gr]
  refine ⟨shO7 hd, c_clearT hd (fun h2 x2 z0 z9 zp z15 z16 z7 z8 zl zw => c_cut (n := n) (f := f) (aTape_e x2 (by unfold scrC; omega) (fun j => by unfold scrC; omega) tp1) (fun i hi => by rw [eqE_L x2 (by unfold scrC; omega)]; exact (wd i hi).1) (fun h3 c x3 tk h4 e4 h5 e5 h6 e6 => ?_))⟩
  have ec := tk_uniq tk mk
  subst ec
  have okT := tab_ok tp1.2.1 tk.1 (fun k hk => (tk.2.1 k hk).1)
  obtain ⟨T, eT⟩ : ∃ T, T = tabOf f n c' := ⟨_, rfl⟩
  have cT3 : cTb T h3 := by rw [eT]; exact tab_c tk
  have mT0 : mTb T hm0 := by rw [eT]; exact tab_m mk
  rw [← eT] at okT
  have y36 : eqE s2 h3 h6 := by rw [e6, e5, e4]; exact eqE_sI (eqE_sI (eqE_sI (eqE_refl _) (by unfold s2; omega)) (by unfold s2; omega)) (by unfold s2; omega)
  have cT6 : cTb T h6 := cTb_f (agI_e y36 (fun a j q z => by unfold s2 at z; omega)) cT3
  have c22 : gI h6 2 2 = nI 0 := by rw [e6, gI_k _ _ (by decide), e5, gI_k _ _ (by decide), e4]; exact gI_at _ _ _ _
  have c21 : gI h6 2 1 = nI 0 := by rw [e6, gI_k _ _ (by decide), e5]; exact gI_at _ _ _ _
  have c20 : gI h6 2 0 = -1 := by rw [e6]; exact gI_at _ _ _ _
  clear e4 e5 e6
  have fc6 : eqE (rdC d) hc h6 := eqE_trans (eqE_w (fun a j q => Or.inl q) x2) (eqE_trans (eqE_w (fun a j q => by unfold cutS at q; unfold rdC; omega) x3) (eqE_w (fun a j q => by unfold s2 at q; unfold rdC scrC; omega) y36))
  have D6 : ∀ a j, 15 ≤ a → gI h6 a j = gI h2 a j := fun a j h => by rw [eqE_I y36 (by unfold s2; omega), eqE_I x3 (by unfold cutS; omega)]
  have S0 : TS T h6 hm0 d s' 0 0 (-1) 0 0 0 (130 * s') (420 * s') := by
    refine ⟨⟨⟨okT, cT6, mT0, by omega, by omega, by omega, fun _ => rfl, fun q => absurd rfl q⟩, ⟨c22, c21, c20⟩, y11, y13, y15, fun q => absurd rfl q⟩, ⟨hd, by rw [fc6.2]; exact gr, hs', by omega, by omega, by omega⟩, ⟨y19, y12, y37, y43, by omega, by omega, by omega, by omega⟩, ⟨by rw [D6 _ _ (by omega)]; exact z0, y9, y20⟩, ⟨by rw [D6 _ _ (by omega)]; exact z9, ysh⟩, ⟨by rw [D6 _ _ (by omega)]; exact z15, yb⟩, fun _ => ⟨⟨fun _ => 0, fun _ _ => 0, ⟨by omega, fun r hr => absurd hr (Nat.not_lt_zero r)⟩, ⟨by rw [D6 _ _ (by omega)]; exact z0, fun r hr => absurd hr (Nat.not_lt_zero r)⟩, ⟨y9, fun r hr => absurd hr (Nat.not_lt_zero r)⟩, fun k hk => absurd hk (Nat.not_lt_zero k)⟩, ⟨fun _ => 0, fun _ => 0, fun _ => 0, fun i hi => absurd hi (Nat.not_lt_zero i), ⟨by rw [D6 _ _ (by omega)]; exact z9, fun i hi => absurd hi (Nat.not_lt_zero i)⟩, ⟨ysh, fun i hi => absurd hi (Nat.not_lt_zero i)⟩, fun i hi => absurd hi (Nat.not_lt_zero i)⟩, ⟨97, pr97, by unfold cP; rw [D6 _ _ (by omega)]; exact zp, yp⟩, ⟨fun _ => 0, ⟨by omega, fun k hk => absurd hk (Nat.not_lt_zero k)⟩, ⟨by rw [D6 _ _ (by omega)]; exact z15, fun set hset => ?_⟩, yb, fun k hk => absurd hk (Nat.not_lt_zero k)⟩, ⟨3, 3, ⟨by omega, by omega, by omega, by omega⟩, by rw [D6 _ _ (by omega)]; exact z7, by rw [D6 _ _ (by omega)]; exact z8, yw, yg⟩, ⟨0, by omega, by rw [D6 _ _ (by omega)]; exact zl, yl⟩, ⟨dfL, dfL_wf, ?_, Or.inr ⟨by rw [y22, y23], rfl⟩⟩⟩⟩
    · have hset : set < 1 := hset
      have e : set = 0 := by omega
      subst e
      rw [D6 _ _ (by omega)]; exact z16
    · have q4 : ∀ j, gI h6 (d + 4) j = gI h2 (d + 4) j := fun j => D6 _ _ (by omega)
      have q5 : ∀ j, gI h6 (d + 4 + 1) j = gI h2 (d + 4 + 1) j := fun j => D6 _ _ (by omega)
      have q6 : ∀ j, gI h6 (d + 4 + 2) j = gI h2 (d + 4 + 2) j := fun j => D6 _ _ (by omega)
      unfold cLaw isStep
      simp only [q4, q5, q6]
      exact zw
  obtain ⟨hcF, hmF, u1, u2, u3, u4, u5⟩ := L_all hs' 401 0 0 0 (-1) 0 0 0 (130 * s') (420 * s') h6 hm0 rfl (Nat.le_refl _) S0
  have fcF : eqE (rdC (48 - o)) hc hcF := by rw [← ed]; exact eqE_trans fc6 (eqE_w (fun a j q => Or.inl q) u1)
  have fmF : eqE (rdM (1 - s)) hm hmF := by rw [← es]; exact eqE_trans (eqE_w (fun a j q => Or.inl q) x0) (eqE_w (fun a j q => Or.inr q) u2)
  have zF2 : gI hmF 0 2 = 0 := by
    rw [eqE_I u2 (fun z => by rcases z with z | z | z | z | z | z | z | z | z | z | z | z | z <;> omega)]; exact y2
  have mF19 : gI hmF 0 19 = nI s' := by
    rw [eqE_I u2 (fun z => by rcases z with z | z | z | z | z | z | z | z | z | z | z | z | z <;> omega)]; exact y19
  -- a fault
  have bad : ∀ (r : Int32) (hcG hmG : hp) (p : Int32), ¬ r = 0 → gI hcG 2 0 = p → eqE (rdC (48 - o)) hc hcG → eqE (rdM (1 - s)) hm hmG → gI hmG 0 2 = 0 → (∀ Q2 : Int32 → hp → Prop, Q2 r (sI hmG 0 17 p) → w_X12_read_136 Q2 0 hmF) → ∀ h3, h3 = sI hcG 0 1 0 → ((¬ r = 0 → (w_X11_read_37 Q r h3 (gI h3 2 0))) ∧ (r = 0 → (w_X11_read_37 Q r h3 (-1)))) := fun r hcG hmG p hr ep fc fm z2 run h3 e3 => by
    subst e3
    refine ⟨fun _ => ?_, fun z => absurd z hr⟩
    unfold w_X11_read_37
    intro h5 e5
    rw [gI_o _ _ (by decide), ep] at e5
    subst e5
    exact ⟨fun _ => hq r _ (fun Q2 hq2 => pre_read (kE _ (fun X hX => u5 Q2 X hX (run Q2 (hq2 _ (Rel_fault T0 to sl hi wd fc fm z2)))))), fun z => absurd z hr⟩
  unfold w_X5_readDraft_36
  intro X hX
  refine u4 _ X hX ?_
  rcases u3 with ⟨F, P, cf, fm⟩ | ⟨t1', W1, Q1, R1, NS1, K1, f1, B1, S1⟩
  · -- the reading stopped
    have nz : ¬ nI F = 0 := by
      have h1 := fm.1
      have h2 := fm.2.1
      have : F = 1 ∨ F = 2 := by omega
      rcases this with q | q <;> subst q <;> decide
    unfold w_X5_readDraft_66 w_X5_readDraft_77
    rw [cf.1]
    refine ⟨fun _ => bad (nI F) hcF hmF P nz cf.2 fcF fmF zF2 (fun Q2 h2 => m_136n hs' mF19 (Or.inl (FM_ne fm).1) ?_), fun z => absurd z nz⟩
    have e13 := fm.2.2.1
    have e14 := fm.2.2.2.1
    have lF : ¬ nI F ≤ 0 := by rw [← e13]; exact (FM_ne fm).2.1
    unfold w_X12_read_215
    rw [e13, e14]
    refine ⟨fun z => absurd z lF, fun _ => ?_⟩
    unfold w_X12_read_245
    intro h30 e30
    subst e30
    rw [gI_k _ _ (by decide), e13]
    exact ⟨fun z => absurd z lF, fun _ => h2⟩
  have g1 := S1.1
  have k13 : gI hmF 0 13 = 0 := (GS_0 g1).1
  have k15 : gI hmF 0 15 = nI W1 := g1.2.2.2.2.1
  have k21 : gI hcF 2 1 = nI W1 := g1.2.1.2.1
  have k20 : gI hcF 2 0 = Q1 := g1.2.1.2.2
  have w5 := (GS_n g1).1
  by_cases w0 : W1 = 0
  · -- no note
    subst w0
    obtain ⟨v1, ⟨AT, WH, SK, q1, q2, q3, q4⟩, ⟨P, p1, p2, p3⟩, v4, v5, v6, v7⟩ := S1.2.2.2.2.2.2 rfl
    rcases L_great S1 q1 q2 q3 q4 p1 p2 p3 with ⟨lt, r1, r2⟩ | ⟨q, r1, r2⟩
    · -- all is well
      refine r1 _ (fun h3 e3 => ⟨fun z => absurd rfl z, fun _ => ?_⟩)
      subst e3
      unfold w_X11_read_37
      intro h5 e5
      subst e5
      refine ⟨fun z => absurd rfl z, fun _ => ?_⟩
      have g0 : gR (sI (sI hcF 0 1 0) 0 2 (-1)) 0 = o := by show gR hcF 0 = o; rw [fcF.2]; exact t1.1
      have g1' : gR (sI (sI hcF 0 1 0) 0 2 (-1)) 1 = d := by show gR hcF 1 = d; rw [fcF.2]; exact gr
      rw [g0]
      refine ⟨t1.2, ?_⟩
      unfold w_X5_exchange w_X5_exchange_0
      rw [g1']
      refine ⟨shO7 hd, fun h2' e2' => ⟨shO7 hd, fun h10 e10 => ?_⟩⟩
      subst e2' e10
      obtain ⟨Wd, G, ow, w7, w8, wm⟩ := v5
      refine c_begin (o := d) (W := Wd) (G := G) ⟨rfl, shO7 hd⟩ hd ow (by show gI (sI (sI hcF 0 1 0) 0 2 (-1)) d 7 = _; rw [gI_o _ _ (by omega), gI_o _ _ (by omega)]; exact w7) (by show gI (sI (sI hcF 0 1 0) 0 2 (-1)) d 8 = _; rw [gI_o _ _ (by omega), gI_o _ _ (by omega)]; exact w8) (fun h11 b1 b51 bs b7 b8 bw bn => hq 0 h11 (fun Q2 hq2 => pre_read (kE _ (fun X hX => u5 Q2 X hX (r2 _ ?_)))))
      -- the reference's end
      let hmE := sI (sI (sI (sI (sI (sI (sI (sI hmF 0 17 (-1)) 0 18 (nI s')) 0 57 0) 0 61 (-1)) 0 62 0) 45 0 (jz 0)) 45 1 (jz 0)) 45 2 (jz 0)
      have fE : eqE (fun a j => (a = 0 ∧ (j = 17 ∨ j = 18 ∨ j = 57 ∨ j = 61 ∨ j = 62)) ∨ a = 45) hmF hmE := eqE_sI (eqE_sI (eqE_sI (eqE_sI (eqE_sI (eqE_sI (eqE_sI (eqE_sI (eqE_refl _) (by omega)) (by omega)) (by omega)) (by omega)) (by omega)) (by omega)) (by omega)) (by omega)
      have rel : RelW h11 hmE := by
        have c11 : ∀ a j, ¬ bSc a j → ¬ (a = 0 ∧ (j = 1 ∨ j = 2)) → gI h11 a j = gI hcF a j ∧ gL h11 a j = gL hcF a j := fun a j n1 n2 => ⟨by
          rw [eqE_I b1 n1]; show gI (sI (sI hcF 0 1 0) 0 2 (-1)) a j = _
          rw [gI_sI, if_neg (fun q => n2 (by omega)), gI_sI, if_neg (fun q => n2 (by omega))], by
          rw [eqE_L b1 n1]; rfl⟩
        have ac : ∀ X : Nat → Nat → Prop, (∀ a j, X a j → 1 ≤ a ∧ a ≤ 50) → agI X hcF h11 := fun X q a j x => c11 a j (by have := q a j x; unfold bSc; omega) (by have := q a j x; omega)
        have am : ∀ X : Nat → Nat → Prop, (∀ a j, X a j → 1 ≤ a ∧ a ≤ 44) → agI X hmF hmE := fun X q => agI_e fE (fun a j z z' => by have := q a j z; omega)
        obtain ⟨Sz, N, k1, k2, k3, _⟩ := dRow_f (ac _ (fun a j q => by unfold kRwC at q; omega)) (am _ (fun a j q => by unfold kRwM at q; omega)) v1
        obtain ⟨_, ⟨a1, a2, a3, a4, a5, a6⟩, ⟨_, _, _, _, f1a, f1b, B1a, B1b⟩, _⟩ := S1
        have t14 := g1.1.2.2.2.1
        have NS8 : NS1 ≤ 8 := a5
        obtain ⟨C, m1, m2, m3⟩ := dBag_f (ac _ (fun a j q => by unfold kBgC at q; omega)) (am _ (fun a j q => by unfold kBgM at q; omega)) v4
        obtain ⟨Lr, l1, l2, l3⟩ := dLia_f (ac _ (fun a j q => by unfold kLiC at q; omega)) (am _ (fun a j q => by unfold kLiM at q; omega)) v6
        obtain ⟨L, j1, j2, j3⟩ := dAsk_f (f' := 130 * s' + 130) (B' := 420 * s' + 420) (by omega) (by omega) (ac _ (fun a j q => by unfold kAsC at q; omega)) (am _ (fun a j q => by unfold kAsM at q; omega)) v7
        have cd : ∀ a j, (1 ≤ a ∧ a ≤ 50) → gI h11 a j = gI hcF a j := fun a j h => (c11 a j (by unfold bSc; omega) (by omega)).1
        have md : ∀ a j, (1 ≤ a ∧ a ≤ 44) → gI hmE a j = gI hmF a j := fun a j h => eqE_I fE (by omega)
        have mE : ∀ j, ¬ (j = 17 ∨ j = 18 ∨ j = 57 ∨ j = 61 ∨ j = 62) → gI hmE 0 j = gI hmF 0 j := fun j h => eqE_I fE (by omega)
        refine ⟨d, s', R1, ⟨Sz, N, P, NS1, AT, WH, K1, C, Wd, G, Lr, L, ⟨hd, ⟨?_, shO7 hd⟩, ?_, ?_, hs'⟩, ⟨k1, k2, k3⟩, ⟨⟨NS8, p1, fun i hi => ⟨lt i hi, (q1 i hi).2.2.1, (q1 i hi).2.2.2⟩⟩, ⟨⟨?_, fun i hi => ?_⟩, ?_⟩, ⟨?_, fun i hi => ?_⟩, ?_⟩, ⟨m1, m2, m3⟩, ⟨ow, bw, bn, ?_, ?_, ?_, ?_⟩, ⟨l1, l2, l3⟩, j1, j2, j3⟩, ⟨0, fun _ => 0, ⟨?_, by omega, fun k hk => absurd hk (Nat.not_lt_zero k)⟩, ⟨?_, by omega, fun k hk => absurd hk (Nat.not_lt_zero k)⟩, fun k hk => absurd hk (Nat.not_lt_zero k)⟩, ⟨0, fun _ => 0, fun _ => 0, by omega, ⟨b51, fun k hk => absurd hk (Nat.not_lt_zero k)⟩, ⟨?_, fun k hk => absurd hk (Nat.not_lt_zero k)⟩⟩, ⟨fun _ => 0, fun i hi => ⟨Nat.zero_le _, bs i hi, ?_, fun q => absurd q (show ¬ (0 : Nat) = 1 by decide)⟩⟩, ?_, ⟨?_, Or.inl ⟨b7, ?_⟩⟩, fun i hi => ⟨?_, ?_⟩⟩
        · rw [b1.2]; rfl
        · rw [b1.2]; show o = 48 - d; omega
        · show gI (sI (sI (sI (sI (sI (sI (sI (sI hmF 0 17 _) 0 18 _) 0 57 _) 0 61 _) 0 62 _) 45 0 _) 45 1 _) 45 2 _) 0 18 = _
          rw [gI_o _ _ (by decide), gI_o _ _ (by decide), gI_o _ _ (by decide), gI_k _ _ (by decide), gI_k _ _ (by decide), gI_k _ _ (by decide)]; exact gI_at _ _ _ _
        · rw [cd _ _ (by omega)]; exact q2.1
        · rw [cd _ _ (by omega), cd _ _ (by omega)]; exact q2.2 i hi
        · unfold cP; rw [cd _ _ (by omega)]; exact p2
        · rw [md _ _ (by decide)]; exact q3.1
        · rw [md _ _ (by decide), md _ _ (by decide)]; exact q3.2 i hi
        · rw [md _ _ (by decide)]; exact p3
        · rw [cd _ _ (by omega)]; exact w7
        · rw [cd _ _ (by omega)]; exact w8
        · rw [md _ _ (by decide)]; exact wm.1
        · rw [md _ _ (by decide)]; exact wm.2
        · rw [eqE_I b1 (by unfold bSc; omega)]; show gI (sI (sI hcF 0 1 0) 0 2 (-1)) 0 1 = _
          rw [gI_k _ _ (by decide)]; exact gI_at _ _ _ _
        · rw [mE _ (by decide)]; exact zF2
        · show gI (sI (sI (sI (sI (sI (sI (sI (sI hmF 0 17 _) 0 18 _) 0 57 _) 0 61 _) 0 62 _) 45 0 _) 45 1 _) 45 2 _) 0 57 = _
          rw [gI_o _ _ (by decide), gI_o _ _ (by decide), gI_o _ _ (by decide), gI_k _ _ (by decide), gI_k _ _ (by decide)]; exact gI_at _ _ _ _
        · show gI (sI (sI (sI (sI (sI (sI (sI (sI hmF 0 17 _) 0 18 _) 0 57 _) 0 61 _) 0 62 _) 45 0 _) 45 1 _) 45 2 _) 45 i = _
          have : i = 0 ∨ i = 1 ∨ i = 2 := by omega
          rcases this with q | q | q
          · subst q; rw [gI_k _ _ (by decide), gI_k _ _ (by decide), gI_at]; decide
          · subst q; rw [gI_k _ _ (by decide), gI_at]; decide
          · subst q; rw [gI_at]; decide
        · show gI h11 0 2 = gI hmE 0 17
          rw [eqE_I b1 (by unfold bSc; omega)]
          show gI (sI (sI hcF 0 1 0) 0 2 (-1)) 0 2 = gI (sI (sI (sI (sI (sI (sI (sI (sI hmF 0 17 _) 0 18 _) 0 57 _) 0 61 _) 0 62 _) 45 0 _) 45 1 _) 45 2 _) 0 17
          rw [gI_at, gI_o _ _ (by decide), gI_o _ _ (by decide), gI_o _ _ (by decide), gI_k _ _ (by decide), gI_k _ _ (by decide), gI_k _ _ (by decide), gI_k _ _ (by decide), gI_at]
        · rw [b8]
          show 0 = gI (sI (sI (sI (sI (sI (sI (sI (sI hmF 0 17 _) 0 18 _) 0 57 _) 0 61 _) 0 62 _) 45 0 _) 45 1 _) 45 2 _) 0 62
          rw [gI_o _ _ (by decide), gI_o _ _ (by decide), gI_o _ _ (by decide), gI_at]
        · show gI (sI (sI (sI (sI (sI (sI (sI (sI hmF 0 17 _) 0 18 _) 0 57 _) 0 61 _) 0 62 _) 45 0 _) 45 1 _) 45 2 _) 0 61 = _
          rw [gI_o _ _ (by decide), gI_o _ _ (by decide), gI_o _ _ (by decide), gI_k _ _ (by decide)]; exact gI_at _ _ _ _
        · rw [(c11 7 i (by unfold bSc; omega) (by omega)).2, eqE_L fcF (by unfold rdC scrC; omega)]; exact (wd i hi).1
        · rw [eqE_L fE (by omega), eqE_L fmF (fun z => by have := rdM_0 z; omega)]; exact (wd i hi).2
      have k15' : gI hmF 0 15 = 0 := k15
      unfold w_X12_read_215
      rw [k13, k15']
      refine ⟨fun _ => ⟨fun _ => ?_, fun z => absurd (by decide) z⟩, fun z => absurd (by decide) z⟩
      unfold w_X12_read_245
      intro h30 e30
      subst e30
      rw [gI_k _ _ (by decide), gI_k _ _ (by decide), gI_k _ _ (by decide), k13, k15', mF19]
      refine ⟨fun _ => ⟨fun _ h33 a33 h34 a34 h35 a35 h36 a36 => ?_, fun z => absurd (by decide) z⟩, fun z => absurd (by decide) z⟩
      subst a33 a34 a35 a36
      exact m_297 (hq2 _ rel)
    · -- too great a share
      refine r1 _ (bad 6 (sI (sI hcF 2 1 6) 2 0 (nI (tbS T q))) (sI (sI hmF 0 15 6) 0 16 (nI (tbS T q))) (nI (tbS T q)) (by decide) (gI_at _ _ _ _) (eqE_sI (eqE_sI fcF (by unfold rdC scrC; omega)) (by unfold rdC scrC; omega)) (eqE_sI (eqE_sI fmF (Or.inr (sc_0 (by omega)))) (Or.inr (sc_0 (by omega)))) (by rw [gI_k _ _ (by decide), gI_k _ _ (by decide)]; exact zF2) (fun Q2 h2 => r2 Q2 (m_245 (F := 0) (W := 6) (P := nI (tbS T q)) (Qp := 0) (by omega) (by omega) (by rw [gI_k _ _ (by decide), gI_k _ _ (by decide)]; exact k13) (by rw [gI_k _ _ (by decide)]; exact gI_at _ _ _ _) (fun z => absurd rfl z) (fun _ _ => gI_at _ _ _ _) (by omega) h2)))
  · -- a note
    have nz : ¬ nI W1 = 0 := fun e => w0 ((nI_eq (b := 0) (by omega) (by omega)).mp e)
    unfold w_X5_readDraft_66 w_X5_readDraft_77
    rw [k21]
    refine ⟨fun _ => bad (nI W1) hcF hmF Q1 nz k20 fcF fmF zF2 (fun Q2 h2 => m_136n hs' mF19 (Or.inr (by rw [k15]; exact nz)) (m_245 (F := 0) (W := W1) (P := Q1) (Qp := 0) (by omega) (by omega) k13 k15 (fun z => absurd rfl z) (fun _ w => g1.2.2.2.2.2 w) (by omega) h2)), fun z => absurd z nz⟩
theorem whole_main : w_X11_begin hInit mainC := by
  refine c_begin (o := 15) (W := 3) (G := 3) ⟨rfl, by decide⟩ (Or.inl rfl) ⟨by decide, by decide, by decide, by decide⟩ (by decide) (by decide) (fun hc xc z51 zs z7 z8 w n => ?_)
  refine m_init (fun hm xm v9 v12 v13 v17 v19 v20 v21 v22 v23 wm => fun L xs hL => ?_)
  have hR := rel_start xc z51 zs z7 z8 w n xm v9 v12 v13 v17 v19 v20 v21 v22 v23 wm
  exact w6 hL q_feed q_back q_read q_place q_row q_comes q_two q_figure q_clash q_world q_tell q_forget q_fits q_sure q_span q_liars q_next q_once q_few q_meets q_game q_bad q_badSet q_allTold q_secret q_shared q_wrong q_hide q_ask q_asks q_enough q_shareRow q_cost q_degree q_worldsAt q_rest q_alike q_plus q_times q_margin q_pair q_unpair q_number q_hold q_restore q_count hR
