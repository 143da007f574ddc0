/-! the worlds are settled -/
theorem nzF_s {G a b p : Nat} (h1 : ∀ k, ¬ k = p → figW G a k = figW G b k) (h2 : ¬ figW G a p = 0) (h3 : figW G b p = 0) : ∀ n, nzF G a n = nzF G b n + (if p < n then 1 else 0)
  | 0 => by rw [if_neg (by omega)]; rfl
  | n + 1 => by
    have ih := nzF_s h1 h2 h3 n
    show nzF G a n + (if figW G a n = 0 then 0 else 1) = nzF G b n + (if figW G b n = 0 then 0 else 1) + (if p < n + 1 then 1 else 0)
    by_cases e : n = p
    · subst e
      rw [if_neg (Nat.lt_irrefl n)] at ih
      rw [if_neg h2, if_pos h3, if_pos (Nat.lt_succ_self n)]
      omega
    · rw [h1 n e]
      by_cases c : p < n
      · rw [if_pos c] at ih
        rw [if_pos (show p < n + 1 by omega)]
        omega
      · rw [if_neg c] at ih
        rw [if_neg (show ¬ p < n + 1 by omega)]
        omega
theorem figW_mod {G i p : Nat} (h1 : (G + 1) ^ p ≤ i) (h2 : i < (G + 1) ^ (p + 1)) : (∀ k, ¬ k = p → figW G i k = figW G (i % (G + 1) ^ p) k) ∧ ¬ figW G i p = 0 ∧ figW G (i % (G + 1) ^ p) p = 0 := by
  have hB : 0 < (G + 1) ^ p := Nat.pow_pos (by omega)
  have hm : i % (G + 1) ^ p < (G + 1) ^ p := Nat.mod_lt _ hB
  refine ⟨fun k hk => ?_, ?_, ?_⟩
  · unfold figW
    rcases Nat.lt_or_ge k p with q | q
    · have e : (G + 1) ^ p = (G + 1) ^ k * (G + 1) ^ (p - k) := by
        rw [← Nat.pow_add]
        congr 1
        omega
      rw [e, Nat.mod_mul_right_div_self]
      have e2 : (G + 1) ^ (p - k) = (G + 1) * (G + 1) ^ (p - k - 1) := by
        rw [← Nat.pow_succ']
        congr 1
        omega
      rw [e2, Nat.mod_mul_right_mod]
    · have hle : (G + 1) ^ (p + 1) ≤ (G + 1) ^ k := Nat.pow_le_pow_right (by omega) (by omega)
      have hle2 : (G + 1) ^ p ≤ (G + 1) ^ k := Nat.pow_le_pow_right (by omega) (by omega)
      rw [Nat.div_eq_of_lt (by omega), Nat.div_eq_of_lt (by omega)]
  · unfold figW
    have hq : i / (G + 1) ^ p < G + 1 := by
      rw [Nat.div_lt_iff_lt_mul hB, Nat.mul_comm, ← Nat.pow_succ]
      exact h2
    have hq1 : 1 ≤ i / (G + 1) ^ p := (Nat.le_div_iff_mul_le hB).mpr (by omega)
    rw [Nat.mod_eq_of_lt hq]
    omega
  · unfold figW
    rw [Nat.div_eq_of_lt hm, Nat.zero_mod]
theorem nzF_0 (G : Nat) : ∀ n, nzF G 0 n = 0
  | 0 => rfl
  | n + 1 => by
    show nzF G 0 n + (if figW G 0 n = 0 then 0 else 1) = 0
    rw [nzF_0 G n, figW_0, if_pos rfl]
def wSc (a _j : Nat) : Prop := a = 64 ∨ a = 66
theorem c_settle {h : hp} {W G : Nat} {Q : hp → Prop} (ok : okW W G) (hq : ∀ h1, eqE wSc h h1 → cWld h1 W G → cNz h1 W G → Q h1) : w_X10_settle h (nI W) (nI G) Q := by
  obtain ⟨o1, o2, o3, o4⟩ := id ok
  unfold w_X10_settle w_X10_settle_0
  intro h1 e1 h2 e2
  refine ⟨in_n (k := 0) (by omega) (by omega), fun h3 e3 => ?_⟩
  have x3 : eqE wSc h h3 := by rw [e3, e2, e1]; exact eqE_sI (eqE_sI (eqE_sI (eqE_refl h) (Or.inl rfl)) (Or.inl rfl)) (Or.inr rfl)
  have g0 : gI h3 64 0 = nI W := by rw [e3, gI_o _ _ (by decide), e2, gI_k _ _ (by decide), e1]; exact gI_at _ _ _ _
  have g2 : gI h3 64 2 = nI G := by rw [e3, gI_o _ _ (by decide), e2]; exact gI_at _ _ _ _
  have n3 : ∀ i, i < 1 → gI h3 66 i = nI (nzF G i W) := fun i hi => by
    rw [show i = 0 from by omega, nzF_0, e3]
    exact gI_at _ _ _ _
  clear e1 e2 e3
  unfold w_X10_settle_22
  intro X hX
  have key : ∀ (n p : Nat) (g : hp), n + p = W → eqE wSc h g → gI g 64 0 = nI W → gI g 64 2 = nI G → (∀ i, i < (G + 1) ^ p → gI g 66 i = nI (nzF G i W)) → X (nI ((G + 1) ^ p), nI p, g) := by
    intro n
    induction n with
    | zero =>
      intro p g hpW xg w0 w2 vg
      have ep : p = W := by omega
      subst ep
      apply hX
      unfold w_X10_settle_b22
      rw [w0]
      refine ⟨fun _ h5 e5 => ?_, fun c => absurd (nI_le (Nat.le_refl _) (by omega)) c⟩
      have e5 : h5 = sI g 64 1 (nI ((G + 1) ^ p)) := e5
      refine hq h5 (by rw [e5]; exact eqE_sI xg (Or.inl rfl)) ⟨by rw [e5, gI_k _ _ (by decide)]; exact w0, by rw [e5]; exact gI_at _ _ _ _, by rw [e5, gI_k _ _ (by decide)]; exact w2⟩ (fun i hi => by rw [e5, gI_o _ _ (by decide)]; exact vg i hi)
    | succ n ih =>
      intro p g hpW xg w0 w2 vg
      have p1 := pow_W (G := G) (j := p) o4 (by omega)
      have p2 := pow_W (G := G) (j := p + 1) o4 (by omega)
      have p0 : 0 < (G + 1) ^ p := Nat.pow_pos (by omega)
      have pp : (G + 1) ^ p * (G + 1) = (G + 1) ^ (p + 1) := (Nat.pow_succ _ _).symm
      apply hX
      unfold w_X10_settle_b22
      rw [w0]
      refine ⟨fun c => absurd c (nI_ge (by omega) (by omega)), fun _ => ?_⟩
      show w_X10_settle_38 Q X (nI p) (nI ((G + 1) ^ p)) (nI ((G + 1) ^ p)) (nI ((G + 1) ^ p)) g
      unfold w_X10_settle_38
      intro Y hY
      have key2 : ∀ (m i : Nat) (g : hp), m + i = (G + 1) ^ (p + 1) → (G + 1) ^ p ≤ i → eqE wSc h g → gI g 64 0 = nI W → gI g 64 2 = nI G → (∀ j, j < i → gI g 66 j = nI (nzF G j W)) → Y (nI i, nI i, g) := by
        intro m
        induction m with
        | zero =>
          intro i g hi hp1 xg w0 w2 vg
          have ei : i = (G + 1) ^ (p + 1) := by omega
          apply hY
          unfold w_X10_settle_b38
          rw [w2, ← nI_succ, nI_mul (by omega) (by omega) (by omega), pp]
          refine ⟨fun _ u eu => ?_, fun c => absurd ?_ c⟩
          · rw [← nI_succ] at eu
            subst eu
            have := ih (p + 1) g (by omega) xg w0 w2 (by rw [← ei]; exact vg)
            rw [← ei] at this
            exact this
          · show nI ((G + 1) ^ (p + 1)) ≤ nI i
            rw [ei]
            exact nI_le (Nat.le_refl _) (by omega)
        | succ m ih2 =>
          intro i g hi hp1 xg w0 w2 vg
          have hmod : i % (G + 1) ^ p < (G + 1) ^ p := Nat.mod_lt _ p0
          apply hY
          unfold w_X10_settle_b38
          rw [w2, ← nI_succ, nI_mul (by omega) (by omega) (by omega), pp, nI_rem (by omega) p0 (by omega), ix_n (n := i) (by omega), ix_n (n := i % (G + 1) ^ p) (by omega), vg _ (by omega), ← nI_succ]
          refine ⟨fun c => absurd c (nI_ge (by omega) (by omega)), fun _ => ⟨fun c => absurd c (nI_ge (b := 10000) (by omega) (by omega)), fun _ => ⟨nI_ne0 (by omega) (by omega), in_n (by omega) (by omega), in_n (by omega) (by omega), fun h10 e10 y ey u eu => ?_⟩⟩⟩
          rw [← nI_succ] at ey eu
          subst ey eu
          obtain ⟨m1', m2', m3'⟩ := figW_mod hp1 (show i < (G + 1) ^ (p + 1) by omega)
          have hs := nzF_s m1' m2' m3' W
          rw [if_pos (show p < W by omega)] at hs
          refine ih2 (i + 1) h10 (by omega) (by omega) ?_ ?_ ?_ (fun j hj => ?_)
          · rw [e10]; exact eqE_sI xg (Or.inr rfl)
          · rw [e10, gI_o _ _ (by decide)]; exact w0
          · rw [e10, gI_o _ _ (by decide)]; exact w2
          · by_cases z : j = i
            · subst z
              rw [e10, gI_at, hs, nI_succ]
            · rw [e10, gI_k _ _ z]; exact vg j (by omega)
      exact key2 ((G + 1) ^ (p + 1) - (G + 1) ^ p) ((G + 1) ^ p) g (by rw [← pp, Nat.mul_add, Nat.mul_one]; omega) (Nat.le_refl _) xg w0 w2 vg
  have := key W 0 h3 (by omega) x3 g0 g2 (by rw [Nat.pow_zero]; exact n3)
  exact this
/-- what begin() writes -/
def bSc (a j : Nat) : Prop := (51 ≤ a ∧ a ≤ 62) ∨ (a = 0 ∧ (j = 7 ∨ j = 8)) ∨ a = 64 ∨ a = 66
theorem c_begin {h : hp} {o W G : Nat} {Q : hp → Prop} (t : cAt h o) (ho : isO o) (ok : okW W G) (g7 : gI h o 7 = nI W) (g8 : gI h o 8 = nI G) (hq : ∀ h1, eqE bSc h h1 → gI h1 51 0 = 0 → (∀ i, i < 3 → gI h1 (54 + 3 * i) 3 = 0) → gI h1 0 7 = -2 → gI h1 0 8 = 0 → cWld h1 W G → cNz h1 W G → Q h1) : w_X11_begin h Q := by
  unfold w_X11_begin w_X11_begin_0 w_X9_clear w_X9_clear_0
  intro h1 e1
  have x1 : eqE bSc h h1 := by rw [e1]; exact eqE_sI (eqE_refl h) (by unfold bSc; omega)
  have z1 : gI h1 51 0 = 0 := by rw [e1]; exact gI_at _ _ _ _
  clear e1
  unfold w_X11_begin_9
  intro X hX
  have key : ∀ (n k : Nat) (g : hp), n + k = 3 → eqE bSc h g → gI g 51 0 = 0 → (∀ i, i < k → gI g (54 + 3 * i) 3 = 0) → X (nI k, g) := by
    intro n
    induction n with
    | zero =>
      intro k g hk xg zg sg
      have ek : k = 3 := by omega
      subst ek
      apply hX
      refine ⟨fun _ h3 e3 h4 e4 => ?_, fun c => absurd (show (3 : Int32) ≤ nI 3 by decide) c⟩
      have e3 : h3 = sI g 0 7 (-2) := e3
      have x4 : eqE bSc h h4 := by rw [e4, e3]; exact eqE_sI (eqE_sI xg (by unfold bSc; omega)) (by unfold bSc; omega)
      have nb : ∀ j, ¬ bSc o j := fun j => by unfold bSc; rcases ho with q | q <;> subst q <;> omega
      have t4 : gR h4 0 = o := by rw [x4.2]; exact t.1
      rw [t4, eqE_I x4 (nb 7), eqE_I x4 (nb 8), g7, g8]
      refine ⟨t.2, t.2, c_settle ok (fun h5 x5 w5 n5 => hq h5 (eqE_trans x4 (eqE_w (fun a j q => by unfold wSc at q; unfold bSc; omega) x5)) ?_ (fun i hi => ?_) ?_ ?_ w5 n5)⟩
      · rw [eqE_I x5 (by unfold wSc; omega), e4, gI_o _ _ (by decide), e3, gI_o _ _ (by decide)]; exact zg
      · rw [eqE_I x5 (by unfold wSc; omega), e4, gI_o _ _ (by omega), e3, gI_o _ _ (by omega)]; exact sg i hi
      · rw [eqE_I x5 (by unfold wSc; omega), e4, gI_k _ _ (by decide), e3]; exact gI_at _ _ _ _
      · rw [eqE_I x5 (by unfold wSc; omega), e4]; exact gI_at _ _ _ _
    | succ n ih =>
      intro k g hk xg zg sg
      apply hX
      unfold w_X11_begin_b9
      rw [ix_n (n := k) (by omega)]
      refine ⟨fun c => absurd c (nI_ge (b := 3) (by omega) (by omega)), fun _ => ⟨in_n (by omega) (by omega), ?_⟩⟩
      unfold w_X9_clear w_X9_clear_0
      intro h9 e9
      refine ⟨in_n (by omega) (by omega), fun h11 e11 u eu => ?_⟩
      rw [← nI_succ] at eu
      subst eu
      refine ih (k + 1) h11 (by omega) ?_ ?_ (fun i hi => ?_)
      · rw [e11, e9]; exact eqE_sI (eqE_sI xg (by unfold bSc; omega)) (by unfold bSc; omega)
      · rw [e11, gI_o _ _ (by omega), e9, gI_o _ _ (by omega)]; exact zg
      · by_cases z : i = k
        · subst z
          rw [e11]; exact gI_at _ _ _ _
        · rw [e11, gI_o _ _ (by omega), e9, gI_o _ _ (by omega)]; exact sg i (by omega)
  exact key 3 0 h1 (by omega) x1 z1 (fun i h => by omega)
/-! the reference's plain(s) -/
def pSc (s a j : Nat) : Prop := ((a = 9 ∨ a = 12 ∨ a = 13 ∨ a = 17 ∨ a = 19 ∨ a = 20 ∨ a = 21) ∧ j = s) ∨ ((a = 22 ∨ a = 23) ∧ (j = 2 * s ∨ j = 2 * s + 1))
theorem m_plain {h : hp} {s : Nat} {Q : hp → Prop} (hs : s < 2) (hq : ∀ h1, eqE (pSc s) h h1 → gI h1 9 s = 0 → gI h1 12 s = 97 → gI h1 13 s = 0 → gI h1 17 s = 0 → gI h1 19 s = 3 → gI h1 20 s = 3 → gI h1 21 s = 0 → gI h1 22 (2 * s) = 0 → gI h1 23 (2 * s) = 0 → Q h1) : w_X12_plain h (nI s) Q := by
  have ins : vp_in (nI s) 2 := in_n hs (by omega)
  unfold w_X12_plain w_X12_plain_0
  rw [ix_n (n := s) (by omega)]
  refine ⟨ins, fun h1 e1 => ⟨ins, fun h2 e2 => ⟨ins, fun h3 e3 => ⟨ins, fun h4 e4 => ⟨ins, fun h5 e5 => ⟨ins, fun h6 e6 => ⟨ins, fun h7 e7 => ?_⟩⟩⟩⟩⟩⟩⟩
  have x7 : eqE (pSc s) h h7 := by
    rw [e7, e6, e5, e4, e3, e2, e1]
    exact eqE_sI (eqE_sI (eqE_sI (eqE_sI (eqE_sI (eqE_sI (eqE_sI (eqE_refl h) (by unfold pSc; omega)) (by unfold pSc; omega)) (by unfold pSc; omega)) (by unfold pSc; omega)) (by unfold pSc; omega)) (by unfold pSc; omega)) (by unfold pSc; omega)
  have v9 : gI h7 9 s = 0 := by rw [e7, gI_o _ _ (by decide), e6, gI_o _ _ (by decide), e5, gI_o _ _ (by decide), e4, gI_o _ _ (by decide), e3, gI_o _ _ (by decide), e2, gI_o _ _ (by decide), e1]; exact gI_at _ _ _ _
  have v12 : gI h7 12 s = 97 := by rw [e7, gI_o _ _ (by decide), e6, gI_o _ _ (by decide), e5, gI_o _ _ (by decide), e4, gI_o _ _ (by decide), e3, gI_o _ _ (by decide), e2]; exact gI_at _ _ _ _
  have v13 : gI h7 13 s = 0 := by rw [e7, gI_o _ _ (by decide), e6, gI_o _ _ (by decide), e5, gI_o _ _ (by decide), e4, gI_o _ _ (by decide), e3]; exact gI_at _ _ _ _
  have v17 : gI h7 17 s = 0 := by rw [e7, gI_o _ _ (by decide), e6, gI_o _ _ (by decide), e5, gI_o _ _ (by decide), e4]; exact gI_at _ _ _ _
  have v19 : gI h7 19 s = 3 := by rw [e7, gI_o _ _ (by decide), e6, gI_o _ _ (by decide), e5]; exact gI_at _ _ _ _
  have v20 : gI h7 20 s = 3 := by rw [e7, gI_o _ _ (by decide), e6]; exact gI_at _ _ _ _
  have v21 : gI h7 21 s = 0 := by rw [e7]; exact gI_at _ _ _ _
  clear e1 e2 e3 e4 e5 e6 e7
  unfold w_X12_plain_52
  intro X hX
  have key : ∀ (n k : Nat) (g : hp), n + k = 2 → eqE (pSc s) h g → eqE (fun a j => (a = 22 ∨ a = 23) ∧ (j = 2 * s ∨ j = 2 * s + 1)) h7 g → (0 < k → gI g 22 (2 * s) = 0 ∧ gI g 23 (2 * s) = 0) → X (nI k, g) := by
    intro n
    induction n with
    | zero =>
      intro k g hk xg yg zg
      have ek : k = 2 := by omega
      subst ek
      apply hX
      refine ⟨fun _ => hq g xg ?_ ?_ ?_ ?_ ?_ ?_ ?_ (zg (by omega)).1 (zg (by omega)).2, fun c => absurd (show (2 : Int32) ≤ nI 2 by decide) c⟩
      · rw [eqE_I yg (by omega)]; exact v9
      · rw [eqE_I yg (by omega)]; exact v12
      · rw [eqE_I yg (by omega)]; exact v13
      · rw [eqE_I yg (by omega)]; exact v17
      · rw [eqE_I yg (by omega)]; exact v19
      · rw [eqE_I yg (by omega)]; exact v20
      · rw [eqE_I yg (by omega)]; exact v21
    | succ n ih =>
      intro k g hk xg yg zg
      have e2s : 2 * nI s + nI k = nI (2 * s + k) := by rw [show (2 : Int32) = nI 2 from rfl, nI_mul (by omega) (by omega) (by omega), nI_add]
      apply hX
      unfold w_X12_plain_b52
      rw [e2s, ix_n (n := 2 * s + k) (by omega)]
      refine ⟨fun c => absurd c (nI_ge (b := 2) (by omega) (by omega)), fun _ => ⟨in_n (by omega) (by omega), fun h9 e9 => ⟨in_n (by omega) (by omega), fun h10 e10 u eu => ?_⟩⟩⟩
      rw [← nI_succ] at eu
      subst eu
      refine ih (k + 1) h10 (by omega) ?_ ?_ (fun _ => ?_)
      · rw [e10, e9]; exact eqE_sI (eqE_sI xg (by unfold pSc; omega)) (by unfold pSc; omega)
      · rw [e10, e9]; exact eqE_sI (eqE_sI yg ⟨Or.inl rfl, by omega⟩) ⟨Or.inr rfl, by omega⟩
      · by_cases z : k = 0
        · subst z
          rw [Nat.add_zero] at e9 e10
          rw [e10, gI_o _ _ (by decide), e9, gI_at]
          exact ⟨rfl, gI_at _ _ _ _⟩
        · obtain ⟨z1, z2⟩ := zg (by omega)
          rw [e10, gI_o _ _ (by decide), e9, gI_k _ _ (by omega), gI_k _ _ (by omega), gI_o _ _ (by decide)]
          exact ⟨z1, z2⟩
  exact key 2 0 h7 (by omega) x7 (eqE_refl h7) (fun h => by omega)
theorem dfL_wf : wfL dfL := by
  refine ⟨by decide, rfl, fun b hb => absurd hb (Nat.not_lt_zero b), ⟨by decide, fun k => if k = 1 then 1 else if k = 2 then 2 else if k = 3 then 1 else 0, rfl, rfl, fun c h1 h2 => ?_⟩, by decide, by decide⟩
  have h2 : c < 3 := h2
  have : c = 0 ∨ c = 1 ∨ c = 2 := by omega
  rcases this with q | q | q <;> subst q <;> decide
theorem pr97 : isPr 97 := ⟨⟨by decide, by decide⟩, fun k h1 h2 => (show ∀ k, k < 97 → 2 ≤ k → ¬ 97 % k = 0 by decide) k h2 h1⟩
/-! both as they are made -/
theorem wd_q {a b c d e f g : Int32} {v : Int64} {Q : Int64 → Prop} (ev : (let ap := fun (x : Int64) (y : Int32) => if y = 0 then x else 27 * x + ((y - 97) + 1).toInt64; ap (ap (ap (ap (ap (ap (ap 0 a) b) c) d) e) f) g) = v) (hq : Q v) : w_X12_word a b c d e f g Q := by
  unfold w_X12_word w_X12_word_0
  have ap : ∀ {x : Int64} {y : Int32} {Q : Int64 → Prop}, Q (if y = 0 then x else 27 * x + ((y - 97) + 1).toInt64) → w_X12_appends x y Q := by
    intro x y Q hq
    unfold w_X12_appends w_X12_appends_0
    exact ⟨fun n => by rw [if_neg n] at hq; exact hq, fun e => by rw [if_pos e] at hq; exact hq⟩
  refine ap (ap (ap (ap (ap (ap (ap ?_))))))
  rw [← ev] at hq
  exact hq
theorem m_init {Q : hp → Prop} (hq : ∀ hm, eqE (fun a j => pSc 0 a j ∨ a = 7) hM0 hm → gI hm 9 0 = 0 → gI hm 12 0 = 97 → gI hm 13 0 = 0 → gI hm 17 0 = 0 → gI hm 19 0 = 3 → gI hm 20 0 = 3 → gI hm 21 0 = 0 → gI hm 22 0 = 0 → gI hm 23 0 = 0 → (∀ i, i < 17 → gL hm 7 i = wrd i) → Q hm) : w_X12_init_403 Q hM0 := by
  unfold w_X12_init_403
  refine m_plain (s := 0) (by decide) (fun h1 x1 v9 v12 v13 v17 v19 v20 v21 v22 v23 => ?_)
  have x1 : eqE (fun a j => pSc 0 a j ∨ a = 7) hM0 h1 := eqE_w (fun a j q => Or.inl q) x1
  have fin : ∀ hm, (∀ a j, gI hm a j = gI h1 a j) → eqE (fun a j => pSc 0 a j ∨ a = 7) hM0 hm → (∀ i, i < 17 → gL hm 7 i = wrd i) → Q hm := fun hm g e w => hq hm e (by rw [g]; exact v9) (by rw [g]; exact v12) (by rw [g]; exact v13) (by rw [g]; exact v17) (by rw [g]; exact v19) (by rw [g]; exact v20) (by rw [g]; exact v21) (by rw [g]; exact v22) (by rw [g]; exact v23) w
  have st : ∀ {k : Nat} {r : Int32} {h h' : hp} {v : Int64}, r = nI k → k < 17 → h' = sL h 7 (ix r) v → v = wrd k → ((∀ a j, gI h a j = gI h1 a j) ∧ eqE (fun a j => pSc 0 a j ∨ a = 7) hM0 h ∧ ∀ i, i < k → gL h 7 i = wrd i) → ((∀ a j, gI h' a j = gI h1 a j) ∧ eqE (fun a j => pSc 0 a j ∨ a = 7) hM0 h' ∧ ∀ i, i < k + 1 → gL h' 7 i = wrd i) := by
    intro k r h h' v er hk e ev ⟨i1, i2, i3⟩
    subst er
    rw [ix_n (by omega)] at e
    refine ⟨fun a j => by rw [e, gI_sL]; exact i1 a j, by rw [e]; exact eqE_sL i2 (Or.inr rfl), fun i hi => ?_⟩
    by_cases c : i = k
    · subst c
      rw [e, gL_at]; exact ev
    · rw [e, gL_k _ _ c]; exact i3 i (by omega)
  have s0 : (∀ a j, gI h1 a j = gI h1 a j) ∧ eqE (fun a j => pSc 0 a j ∨ a = 7) hM0 h1 ∧ ∀ i, i < 0 → gL h1 7 i = wrd i := ⟨fun _ _ => rfl, x1, fun i hi => by omega⟩
  refine wd_q (v := wrd 0) (by decide) ⟨by unfold vp_in; decide, fun h4 e4 => ?_⟩
  have s1 := st (k := 0) rfl (by omega) e4 rfl s0
  refine wd_q (v := wrd 1) (by decide) ⟨by unfold vp_in; decide, fun h7 e7 => ?_⟩
  have s2 := st (k := 1) rfl (by omega) e7 rfl s1
  refine wd_q (v := wrd 2) (by decide) ⟨by unfold vp_in; decide, fun h10 e10 => ?_⟩
  have s3 := st (k := 2) rfl (by omega) e10 rfl s2
  refine wd_q (v := wrd 3) (by decide) ⟨by unfold vp_in; decide, fun h13 e13 => ?_⟩
  have s4 := st (k := 3) rfl (by omega) e13 rfl s3
  refine wd_q (v := wrd 4) (by decide) ⟨by unfold vp_in; decide, fun h16 e16 => ?_⟩
  have s5 := st (k := 4) rfl (by omega) e16 rfl s4
  refine wd_q (v := wrd 5) (by decide) ⟨by unfold vp_in; decide, fun h19 e19 => ?_⟩
  have s6 := st (k := 5) rfl (by omega) e19 rfl s5
  refine wd_q (v := wrd 6) (by decide) ⟨by unfold vp_in; decide, fun h22 e22 => ?_⟩
  have s7 := st (k := 6) rfl (by omega) e22 rfl s6
  refine wd_q (v := wrd 7) (by decide) ⟨by unfold vp_in; decide, fun h25 e25 => ?_⟩
  have s8 := st (k := 7) rfl (by omega) e25 rfl s7
  refine wd_q (v := wrd 8) (by decide) ⟨by unfold vp_in; decide, fun h28 e28 => ?_⟩
  have s9 := st (k := 8) rfl (by omega) e28 rfl s8
  refine wd_q (v := wrd 9) (by decide) ⟨by unfold vp_in; decide, fun h31 e31 => ?_⟩
  have s10 := st (k := 9) rfl (by omega) e31 rfl s9
  refine wd_q (v := wrd 10) (by decide) ⟨by unfold vp_in; decide, fun h34 e34 => ?_⟩
  have s11 := st (k := 10) rfl (by omega) e34 rfl s10
  refine wd_q (v := wrd 11) (by decide) ⟨by unfold vp_in; decide, fun h37 e37 => ?_⟩
  have s12 := st (k := 11) rfl (by omega) e37 rfl s11
  refine wd_q (v := wrd 12) (by decide) ⟨by unfold vp_in; decide, fun h40 e40 => ?_⟩
  have s13 := st (k := 12) rfl (by omega) e40 rfl s12
  refine wd_q (v := wrd 13) (by decide) ⟨by unfold vp_in; decide, fun h43 e43 => ?_⟩
  have s14 := st (k := 13) rfl (by omega) e43 rfl s13
  refine wd_q (v := wrd 14) (by decide) ⟨by unfold vp_in; decide, fun h46 e46 => ?_⟩
  have s15 := st (k := 14) rfl (by omega) e46 rfl s14
  refine wd_q (v := wrd 15) (by decide) ⟨by unfold vp_in; decide, fun h49 e49 => ?_⟩
  have s16 := st (k := 15) rfl (by omega) e49 rfl s15
  refine wd_q (v := wrd 16) (by decide) ⟨by unfold vp_in; decide, fun h52 e52 => ?_⟩
  have s17 := st (k := 16) rfl (by omega) e52 rfl s16
  exact fin h52 s17.1 s17.2.1 s17.2.2
theorem dfL_c {h : hp} (e : ∀ i j, (i = 19 ∨ i = 20 ∨ i = 21) → gI h i j = gI hInit i j) : cLaw 19 h dfL := by
  have r19 : ∀ j, gI h 19 j = gI hInit 19 j := fun j => e 19 j (Or.inl rfl)
  have r20 : ∀ j, gI h (19 + 1) j = gI hInit 20 j := fun j => e 20 j (Or.inr (Or.inl rfl))
  have r21 : ∀ j, gI h (19 + 2) j = gI hInit 21 j := fun j => e 21 j (Or.inr (Or.inr rfl))
  refine ⟨by rw [r19]; decide, fun b hb => absurd hb (Nat.not_lt_zero b), fun c h1 h2 => ?_, by rw [r20]; decide⟩
  have h2 : c < 3 := h2
  have : c = 0 ∨ c = 1 ∨ c = 2 := by omega
  unfold isStep
  rw [r20, r21]
  rcases this with q | q | q <;> subst q <;> refine ⟨by decide, fun z => ?_⟩
  · decide
  · decide
  · exact absurd z (by decide)
theorem rel_start {hc hm : hp} (xc : eqE bSc hInit hc) (z51 : gI hc 51 0 = 0) (zs : ∀ i, i < 3 → gI hc (54 + 3 * i) 3 = 0) (z7 : gI hc 0 7 = -2) (z8 : gI hc 0 8 = 0) (w : cWld hc 3 3) (n : cNz hc 3 3) (xm : eqE (fun a j => pSc 0 a j ∨ a = 7) hM0 hm) (v9 : gI hm 9 0 = 0) (v12 : gI hm 12 0 = 97) (v13 : gI hm 13 0 = 0) (v17 : gI hm 17 0 = 0) (v19 : gI hm 19 0 = 3) (v20 : gI hm 20 0 = 3) (v21 : gI hm 21 0 = 0) (v22 : gI hm 22 0 = 0) (v23 : gI hm 23 0 = 0) (wm : ∀ i, i < 17 → gL hm 7 i = wrd i) : RelW hc hm := by
  have rc : ∀ a j, ¬ bSc a j → gI hc a j = gI hInit a j := fun a j q => eqE_I xc q
  have rm : ∀ a j, ¬ (pSc 0 a j ∨ a = 7) → gI hm a j = gI hM0 a j := fun a j q => eqE_I xm q
  have b : ∀ a j, (15 ≤ a ∧ a ≤ 50) → ¬ bSc a j := fun a j q z => by unfold bSc at z; omega
  refine ⟨15, 0, 0, ⟨fun _ => 0, fun _ _ => 0, 97, 0, fun _ => 0, fun _ => 0, 0, fun _ => 0, 3, 3, 0, dfL, ⟨Or.inl rfl, ⟨by rw [xc.2]; rfl, by decide⟩, by rw [xc.2]; rfl, ⟨by rw [rm _ _ (by unfold pSc; omega)]; rfl, by decide⟩⟩, ⟨⟨by decide, fun r hr => by omega⟩, ⟨by rw [rc _ _ (b _ _ (by omega))]; decide, fun r hr => by omega⟩, v9, fun r hr => by omega⟩, ⟨⟨by decide, pr97, fun i hi => by omega⟩, ⟨⟨by rw [rc _ _ (b _ _ (by omega))]; decide, fun i hi => by omega⟩, by unfold cP; rw [rc _ _ (b _ _ (by omega))]; decide⟩, ⟨v13, fun i hi => by omega⟩, v12⟩, ⟨⟨by decide, fun k hk => by omega⟩, ⟨by rw [rc _ _ (b _ _ (by omega))]; decide, fun set hs => ?_⟩, v17, fun k hk => by omega⟩, ⟨⟨by decide, by decide, by decide, by decide⟩, w, n, by rw [rc _ _ (b _ _ (by omega))]; decide, by rw [rc _ _ (b _ _ (by omega))]; decide, v19, v20⟩, ⟨by decide, by rw [rc _ _ (b _ _ (by omega))]; decide, v21⟩, dfL_wf, dfL_c (fun i j hi => rc i j (b _ _ (by omega))), Or.inr ⟨by rw [v22, v23], rfl⟩⟩, ?_, ?_, ?_, ?_, ?_, ?_⟩
  · have hs : set < 1 := hs
    have e : set = 0 := by omega
    subst e
    rw [rc _ _ (b _ _ (by omega))]
    decide
  · exact ⟨0, fun _ => 0, ⟨by rw [rc _ _ (by unfold bSc; omega)]; decide, by decide, fun k hk => by omega⟩, ⟨by rw [rm _ _ (by unfold pSc; omega)]; rfl, by decide, fun k hk => by omega⟩, fun k hk => by omega⟩
  · exact ⟨0, fun _ => 0, fun _ => 0, by decide, ⟨z51, fun k hk => by omega⟩, ⟨by rw [rm _ _ (by unfold pSc; omega)]; rfl, fun k hk => by omega⟩⟩
  · exact ⟨fun _ => 0, fun i hi => ⟨Nat.zero_le _, zs i hi, by rw [rm _ _ (by unfold pSc; omega)]; rfl, fun q => absurd q (show ¬ (0 : Nat) = 1 by decide)⟩⟩
  · show gI hc 0 2 = gI hm 0 17
    rw [rc _ _ (by unfold bSc; omega), rm _ _ (by unfold pSc; omega)]
    decide
  · refine ⟨?_, Or.inl ⟨z7, ?_⟩⟩
    · rw [z8, rm _ _ (by unfold pSc; omega)]; rfl
    · rw [rm _ _ (by unfold pSc; omega)]; rfl
  · intro i hi
    refine ⟨?_, wm i hi⟩
    rw [eqE_L xc (by unfold bSc; omega)]
    rfl
theorem whole_main (hr : pp_read RelW) : w_X11_begin hInit mainC := by
  refine c_begin (o := 15) (W := 3) (G := 3) ⟨rfl, by decide⟩ (Or.inl rfl) ⟨by decide, by decide, by decide, by decide⟩ (by decide) (by decide) (fun hc xc z51 zs z7 z8 w n => ?_)
  refine m_init (fun hm xm v9 v12 v13 v17 v19 v20 v21 v22 v23 wm => fun L xs hL => ?_)
  have hR := rel_start xc z51 zs z7 z8 w n xm v9 v12 v13 v17 v19 v20 v21 v22 v23 wm
  exact w6 hL q_feed q_back hr q_place q_row q_comes q_two q_figure q_clash q_world q_tell q_forget q_fits q_sure q_span q_liars q_next q_once q_few q_meets q_game q_bad q_badSet q_allTold q_secret q_shared q_wrong q_hide q_ask q_asks q_enough q_shareRow q_cost q_degree q_worldsAt q_rest q_alike q_plus q_times q_margin q_pair q_unpair q_number q_hold q_restore q_count hR
