/-! what the class's worlds come to -/
def pwL (b : Int64) : Nat → Int64
  | 0 => 1
  | k + 1 => pwL b k * b
theorem horF_add {g : Nat → Int32} {b : Int64} : ∀ (n : Nat) (acc c : Int64), horF g b n (acc + c) = horF g b n acc + c * pwL b n
  | 0, acc, c => by
    show acc + c = acc + c * 1
    rw [Int64.mul_one]
  | n + 1, acc, c => by
    show horF g b n ((acc + c) * b + (g n).toInt64) = horF g b n (acc * b + (g n).toInt64) + c * (pwL b n * b)
    have e : (acc + c) * b + (g n).toInt64 = (acc * b + (g n).toInt64) + c * b := by
      rw [Int64.add_mul, Int64.add_assoc, Int64.add_comm (c * b), ← Int64.add_assoc]
    rw [e, horF_add n, Int64.mul_assoc, Int64.mul_comm b]
theorem horF_inc {g g' : Nat → Int32} {b : Int64} {p : Nat} (hp : (g p).toInt64 = (g' p).toInt64 + 1) (hg : ∀ k, k ≠ p → g k = g' k) : ∀ (n : Nat) (acc : Int64), p < n → horF g b n acc = horF g' b n acc + pwL b p
  | 0, _, h => absurd h (by omega)
  | n + 1, acc, h => by
    show horF g b n (acc * b + (g n).toInt64) = horF g' b n (acc * b + (g' n).toInt64) + pwL b p
    by_cases e : p = n
    · subst e
      rw [hp, ← Int64.add_assoc, horF_add, Int64.one_mul, horF_congr p _ (fun k hk => hg k (by omega))]
    · rw [hg n (fun q => e q.symm)]
      exact horF_inc hp hg n _ (by omega)
theorem horF_z {g : Nat → Int32} {b : Int64} (hg : ∀ k, g k = 0) : ∀ n : Nat, horF g b n 0 = 0
  | 0 => rfl
  | n + 1 => by
    show horF g b n (0 * b + (g n).toInt64) = 0
    rw [hg n, show (0 : Int64) * b + (0 : Int32).toInt64 = 0 from by rw [Int64.zero_mul]; rfl]
    exact horF_z hg n
theorem figW_0 (G k : Nat) : figW G 0 k = 0 := by
  unfold figW
  rw [Nat.zero_div, Nat.zero_mod]
theorem wcV_0 {W G : Nat} {b : Int64} : wcV W G 0 b = 0 := horF_z (fun k => by rw [figW_0]; rfl) W
/-- one more at place p -/
theorem figW_inc {G i p : Nat} (h1 : (G + 1) ^ p ≤ i) (h2 : i < (G + 1) ^ (p + 1)) : figW G i p = figW G (i - (G + 1) ^ p) p + 1 ∧ ∀ k, k ≠ p → figW G i k = figW G (i - (G + 1) ^ p) k := by
  have hB : 0 < (G + 1) ^ p := Nat.pow_pos (by omega)
  obtain ⟨j, rfl⟩ : ∃ j, i = j + (G + 1) ^ p := ⟨i - (G + 1) ^ p, by omega⟩
  rw [Nat.add_sub_cancel]
  refine ⟨?_, fun k hk => ?_⟩
  · unfold figW
    rw [Nat.add_div_right _ hB]
    have hq : j / (G + 1) ^ p + 1 < G + 1 := by
      have : (j + (G + 1) ^ p) / (G + 1) ^ p < G + 1 := by
        rw [Nat.div_lt_iff_lt_mul hB, Nat.mul_comm, ← Nat.pow_succ]
        exact h2
      rw [Nat.add_div_right _ hB] at this
      exact this
    show (j / (G + 1) ^ p + 1) % (G + 1) = j / (G + 1) ^ p % (G + 1) + 1
    rw [Nat.mod_eq_of_lt hq, Nat.mod_eq_of_lt (by omega)]
  · unfold figW
    rcases Nat.lt_or_ge k p with q | q
    · have e : (G + 1) ^ p = (G + 1) ^ k * ((G + 1) * (G + 1) ^ (p - k - 1)) := by
        rw [← Nat.pow_succ', ← Nat.pow_add]
        congr 1
        omega
      rw [e, Nat.add_mul_div_left _ _ (Nat.pow_pos (by omega)), Nat.add_mul_mod_self_left]
    · have hle : (G + 1) ^ (p + 1) ≤ (G + 1) ^ k := Nat.pow_le_pow_right (by omega) (by omega)
      rw [Nat.div_eq_of_lt (by omega), Nat.div_eq_of_lt (by omega)]
theorem nI_inc64 {a : Nat} (h : a + 1 < 2147483648) : (nI (a + 1)).toInt64 = (nI a).toInt64 + 1 := by
  have e1 := n_toInt h
  have e2 := n_toInt (n := a) (by omega)
  have e3 : (1 : Int64).toInt = 1 := rfl
  refine tL_eq.mpr ?_
  rw [tL_add (by rw [tL_int, e2, e3]; omega) (by rw [tL_int, e2, e3]; omega), tL_int, tL_int, e1, e2, e3]
  omega
theorem wcV_inc {W G i p : Nat} {b : Int64} (hG : G ≤ 9) (hp : p < W) (h1 : (G + 1) ^ p ≤ i) (h2 : i < (G + 1) ^ (p + 1)) : wcV W G i b = wcV W G (i - (G + 1) ^ p) b + pwL b p := by
  obtain ⟨f1, f2⟩ := figW_inc h1 h2
  have hlt : figW G i p < G + 1 := Nat.mod_lt _ (by omega)
  refine horF_inc ?_ (fun k hk => by show nI (figW G i k) = nI _; rw [f2 k hk]) W 0 hp
  show (nI (figW G i p)).toInt64 = (nI (figW G (i - (G + 1) ^ p) p)).toInt64 + 1
  rw [f1]
  exact nI_inc64 (by omega)
/-- the values of all worlds stand -/
def cVal (h : hp) (W G : Nat) (b : Int64) : Prop := ∀ i, i < (G + 1) ^ W → gL h 65 i = wcV W G i b
theorem cWld_e {h h1 : hp} {W G : Nat} (e : eqE cScr h h1) (a : cWld h W G) : cWld h1 W G :=
  ⟨by rw [(e.1 64 0 (by unfold cScr; omega)).1]; exact a.1, by rw [(e.1 64 1 (by unfold cScr; omega)).1]; exact a.2.1, by rw [(e.1 64 2 (by unfold cScr; omega)).1]; exact a.2.2⟩
/-- only what worlds come to has changed -/
def vScr (a _j : Nat) : Prop := a = 65
theorem eqE_w {P P' : Nat → Nat → Prop} {h h1 : hp} (hP : ∀ a j, P a j → P' a j) (e : eqE P h h1) : eqE P' h h1 := ⟨fun a j n => e.1 a j (fun q => n (hP a j q)), e.2⟩
theorem vScr_c : ∀ a j, vScr a j → cScr a j := fun a j h => Or.inl h
theorem cWld_v {h h1 : hp} {W G : Nat} (e : eqE vScr h h1) (a : cWld h W G) : cWld h1 W G := cWld_e (eqE_w vScr_c e) a
theorem c_comeBy {h : hp} {W G : Nat} {b : Int64} {Q : hp → Prop} (a : cWld h W G) (ok : okW W G) (hq : ∀ h1, eqE vScr h h1 → cVal h1 W G b → Q h1) : w_X10_comeBy h b Q := by
  obtain ⟨o1, o2, o3, o4⟩ := id ok
  unfold w_X10_comeBy w_X10_comeBy_0
  refine ⟨in_n (k := 0) (by omega) (by omega), fun h1 e1 => ?_⟩
  have x1 : eqE vScr h h1 := by rw [e1]; exact eqE_sL (eqE_refl h) rfl
  have v1 : ∀ i, i < 1 → gL h1 65 i = wcV W G i b := fun i hi => by
    rw [show i = 0 from by omega, wcV_0, e1]
    exact gL_at _ _ _ _
  clear e1
  unfold w_X10_comeBy_15
  intro X hX
  have key : ∀ (n p : Nat) (g : hp), n + p = W → eqE vScr h g → (∀ i, i < (G + 1) ^ p → gL g 65 i = wcV W G i b) → X (nI ((G + 1) ^ p), pwL b p, nI p, g) := by
    intro n
    induction n with
    | zero =>
      intro p g hpW xg vg
      have ep : p = W := by omega
      subst ep
      apply hX
      refine ⟨fun _ => hq g xg vg, fun c => absurd ?_ c⟩
      show gI g 64 0 ≤ nI p
      rw [(cWld_v xg a).1]
      exact nI_le (Nat.le_refl _) (by omega)
    | succ n ih =>
      intro p g hpW xg vg
      apply hX
      refine ⟨fun c => absurd c ?_, fun _ => ?_⟩
      · show ¬ gI g 64 0 ≤ nI p
        rw [(cWld_v xg a).1]
        exact nI_ge (by omega) (by omega)
      · show w_X10_comeBy_30 Q X b (pwL b p) (nI p) (nI ((G + 1) ^ p)) (nI ((G + 1) ^ p)) 0 g
        have p1 := pow_W (G := G) (j := p) o4 (by omega)
        have p2 := pow_W (G := G) (j := p + 1) o4 (by omega)
        have p0 : 0 < (G + 1) ^ p := Nat.pow_pos (by omega)
        have pp : (G + 1) ^ (p + 1) = (G + 1) ^ p * G + (G + 1) ^ p := by rw [Nat.pow_succ, Nat.mul_add, Nat.mul_one]
        unfold w_X10_comeBy_30
        intro Y hY
        have key2 : ∀ (m i : Nat) (g : hp), m + i = (G + 1) ^ p * G → eqE vScr h g → (∀ j, j < (G + 1) ^ p + i → gL g 65 j = wcV W G j b) → Y (nI ((G + 1) ^ p + i), nI i, g) := by
          intro m
          induction m with
          | zero =>
            intro i g hi xg vg
            have ei : i = (G + 1) ^ p * G := by omega
            subst ei
            apply hY
            refine ⟨fun _ y ey z ez => ?_, fun c => absurd ?_ c⟩
            · have ey : y = pwL b (p + 1) := ey
              have ez : z = nI p + 1 := ez
              rw [← nI_succ] at ez
              subst ey ez
              have := ih (p + 1) g (by omega) xg (fun j hj => vg j (by omega))
              rw [pp, Nat.add_comm] at this
              exact this
            · show nI ((G + 1) ^ p) * gI g 64 2 ≤ nI ((G + 1) ^ p * G)
              rw [(cWld_v xg a).2.2, nI_mul (by omega) (by omega) (by omega)]
              exact nI_le (Nat.le_refl _) (by omega)
          | succ m ih2 =>
            intro i g hi xg vg
            apply hY
            refine ⟨fun c => absurd c ?_, fun _ => ⟨fun c => absurd c ?_, fun _ => ?_⟩⟩
            · show ¬ nI ((G + 1) ^ p) * gI g 64 2 ≤ nI i
              rw [(cWld_v xg a).2.2, nI_mul (by omega) (by omega) (by omega)]
              exact nI_ge (by omega) (by omega)
            · exact nI_ge (b := 10000) (by omega) (by omega)
            · have es : nI ((G + 1) ^ p + i) - nI ((G + 1) ^ p) = nI i := by
                rw [nI_sub (by omega) (by omega)]
                congr 1
                omega
              refine ⟨?_, in_n (by omega) (by omega), fun h9 e9 y ey z ez => ?_⟩
              · show vp_in (nI ((G + 1) ^ p + i) - nI ((G + 1) ^ p)) 10000
                rw [es]
                exact in_n (by omega) (by omega)
              · have e9 : h9 = sL g 65 (ix (nI ((G + 1) ^ p + i))) (gL g 65 (ix (nI ((G + 1) ^ p + i) - nI ((G + 1) ^ p))) + pwL b p) := e9
                have ey : y = nI ((G + 1) ^ p + i) + 1 := ey
                have ez : z = nI i + 1 := ez
                rw [es, ix_n (by omega), ix_n (by omega)] at e9
                rw [← nI_succ] at ey ez
                subst ey ez
                refine ih2 (i + 1) h9 (by omega) ?_ (fun j hj => ?_)
                · rw [e9]; exact eqE_sL xg rfl
                · rw [e9, gL_sL]
                  by_cases q : j = (G + 1) ^ p + i
                  · rw [if_pos ⟨rfl, q⟩, vg i (by omega), q]
                    have := wcV_inc (i := (G + 1) ^ p + i) (b := b) o4 (show p < W by omega) (by omega) (by omega)
                    rw [this]
                    congr 2
                    omega
                  · rw [if_neg (fun z => q z.2)]
                    exact vg j (by omega)
        have := key2 ((G + 1) ^ p * G) 0 g (by omega) xg vg
        exact this
  have := key W 0 h1 (by omega) x1 (by rw [Nat.pow_zero]; exact v1)
  exact this
/-! worldsAt -/
abbrev wAtP (W G : Nat) (b v : Int64) (i : Nat) : Prop := wcV W G i b = v
theorem c_worldsAt {h : hp} {W G : Nat} {x : Int32} {v : Int64} {Q : Int32 → hp → Prop} (a : cWld h W G) (ok : okW W G) (hq1 : ∀ h1, -99 ≤ x.toInt ∧ x.toInt ≤ 99 → eqE cScr h h1 → Q (nI (cntF (wAtP W G x.toInt64 v) ((G + 1) ^ W) ((G + 1) ^ W) 0)) h1) (hq0 : ¬ (-99 ≤ x.toInt ∧ x.toInt ≤ 99) → Q (-1) h) : w_X11_worldsAt h x v Q := by
  obtain ⟨o1, o2, o3, o4⟩ := id ok
  have hM := pow_W (G := G) (j := W) o4 o2
  unfold w_X11_worldsAt w_X11_worldsAt_0
  refine c_within (fun c1 => ⟨fun q => absurd q (by decide), fun _ => ?_⟩) (fun c1 => ⟨fun _ => hq0 (fun q => c1 (by rw [tL_int]; exact q)), fun q => absurd rfl q⟩)
  rw [tL_int] at c1
  unfold w_X10_howManyComeTo w_X10_howManyComeTo_0
  refine c_comeBy a ok (fun h1 x1 v1 => ?_)
  have hq := hq1 h1 c1 (eqE_w vScr_c x1)
  have a1 := cWld_v x1 a
  unfold w_X10_howManyComeTo_12
  intro X hX
  generalize hMe : (G + 1) ^ W = M at hM a1 v1 hq
  have key : ∀ n acc : Nat, n ≤ M → Q (nI (cntF (wAtP W G x.toInt64 v) M n acc)) h1 → X (nI acc, nI (M - n)) := by
    intro n
    induction n with
    | zero =>
      intro acc _ hq
      apply hX
      refine ⟨fun _ => hq, fun c => absurd ?_ c⟩
      show gI h1 64 1 ≤ nI M
      rw [a1.2.1, hMe]
      exact nI_le (Nat.le_refl _) (by omega)
    | succ n ih =>
      intro acc hn hq
      unfold cntF at hq
      apply hX
      refine ⟨fun c => absurd c ?_, fun _ => ⟨in_n (by omega) (by omega), fun c u eu => ?_, fun c w ew u eu => ?_⟩⟩
      · show ¬ gI h1 64 1 ≤ nI (M - (n + 1))
        rw [a1.2.1, hMe]
        exact nI_ge (by omega) (by omega)
      · have c : ¬ gL h1 65 (ix (nI (M - (n + 1)))) = v := c
        rw [ix_n (by omega), v1 _ (by omega)] at c
        have eu : u = nI (M - (n + 1)) + 1 := eu
        rw [← nI_succ, show M - (n + 1) + 1 = M - n from by omega] at eu
        rw [if_neg c] at hq
        subst eu
        exact ih acc (by omega) hq
      · have c : gL h1 65 (ix (nI (M - (n + 1)))) = v := c
        rw [ix_n (by omega), v1 _ (by omega)] at c
        have eu : u = nI (M - (n + 1)) + 1 := eu
        have ew : w = nI acc + 1 := ew
        rw [← nI_succ, show M - (n + 1) + 1 = M - n from by omega] at eu
        rw [← nI_succ] at ew
        rw [if_pos c] at hq
        subst eu ew
        exact ih (acc + 1) (by omega) hq
  have := key M 0 (Nat.le_refl _) hq
  rw [Nat.sub_self] at this
  exact this
theorem m_worldsAt {h : hp} {s W G : Nat} {x : Int32} {v : Int64} {Q : Int32 → Prop} (t : mAt h s) (a : mWld s h W G) (ok : okW W G) (hq1 : -99 ≤ x.toInt ∧ x.toInt ≤ 99 → Q (nI (cntF (wAtP W G x.toInt64 v) ((G + 1) ^ W) ((G + 1) ^ W) 0))) (hq0 : ¬ (-99 ≤ x.toInt ∧ x.toInt ≤ 99) → Q (-1)) : w_X12_worldsAt h x v Q := by
  obtain ⟨o1, o2, o3, o4⟩ := id ok
  have hM := pow_W (G := G) (j := W) o4 o2
  unfold w_X12_worldsAt w_X12_worldsAt_0
  refine m_in (fun c1 => ⟨fun _ => ?_, fun q => absurd q (by decide)⟩) (fun c1 => ⟨fun q => absurd rfl q, fun _ => hq0 (fun q => c1 (by rw [tL_int]; exact q))⟩)
  rw [tL_int] at c1
  have hq := hq1 c1
  unfold w_X12_worldsAt_22
  intro X hX
  have wa : ∀ {R : Int32 → Prop}, R (nI ((G + 1) ^ W)) → w_X12_worldAll h R := fun hr => m_worldAll t a ok hr
  generalize (G + 1) ^ W = M at hM wa hq
  have key : ∀ n acc : Nat, n ≤ M → Q (nI (cntF (wAtP W G x.toInt64 v) M n acc)) → X (nI acc, nI (M - n)) := by
    intro n
    induction n with
    | zero =>
      intro acc _ hq
      apply hX
      exact wa ⟨fun _ => hq, fun c => absurd (nI_le (Nat.le_refl _) (by omega)) c⟩
    | succ n ih =>
      intro acc hn hq
      unfold cntF at hq
      apply hX
      refine wa ⟨fun c => absurd c (nI_ge (by omega) (by omega)), fun _ => m_worldComes t a ok (by omega) ⟨fun c u eu => ?_, fun c w ew u eu => ?_⟩⟩
      · have eu : u = nI (M - (n + 1)) + 1 := eu
        rw [← nI_succ, show M - (n + 1) + 1 = M - n from by omega] at eu
        rw [if_neg c] at hq
        subst eu
        exact ih acc (by omega) hq
      · have eu : u = nI (M - (n + 1)) + 1 := eu
        have ew : w = nI acc + 1 := ew
        rw [← nI_succ, show M - (n + 1) + 1 = M - n from by omega] at eu
        rw [← nI_succ] at ew
        rw [if_pos c] at hq
        subst eu ew
        exact ih (acc + 1) (by omega) hq
  have := key M 0 (Nat.le_refl _) hq
  rw [Nat.sub_self] at this
  exact this
/-! tables with open places -/
def cntB (occ : Nat → Bool) : Nat → Nat
  | 0 => 0
  | n + 1 => cntB occ n + (if occ n = true then 1 else 0)
theorem cntB_all {occ : Nat → Bool} : ∀ n, (∀ p, p < n → occ p = true) → cntB occ n = n
  | 0, _ => rfl
  | n + 1, h => by
    unfold cntB
    rw [cntB_all n (fun p hp => h p (by omega)), if_pos (h n (by omega))]
theorem cntB_none {occ : Nat → Bool} : ∀ n, (∀ p, p < n → occ p = false) → cntB occ n = 0
  | 0, _ => rfl
  | n + 1, h => by
    unfold cntB
    rw [cntB_none n (fun p hp => h p (by omega)), h n (by omega)]
    rfl
theorem cntB_set {occ : Nat → Bool} (q : Nat) : ∀ n, cntB (fun p => if p = q then true else occ p) n ≤ cntB occ n + (if q < n then 1 else 0)
  | 0 => by show 0 ≤ _; omega
  | n + 1 => by
    have ih := cntB_set (occ := occ) q n
    unfold cntB
    by_cases e : n = q
    · subst e
      rw [if_pos rfl]
      rw [if_neg (Nat.lt_irrefl n)] at ih
      rw [if_pos (Nat.lt_succ_self n)]
      simp only [if_true]
      omega
    · rw [if_neg e]
      by_cases c : q < n
      · rw [if_pos c] at ih
        rw [if_pos (show q < n + 1 by omega)]
        omega
      · rw [if_neg c] at ih
        rw [if_neg (show ¬ q < n + 1 by omega)]
        omega
def tabI (Z : Nat) (H : Int64 → Nat) (occ : Nat → Bool) (key : Nat → Int64) (ld : Nat → Nat) (S : Int64 → Option Nat) (n : Nat) : Prop :=
  (∀ p, p < Z → occ p = true → S (key p) = some (ld p)) ∧ (∀ k l, S k = some l → ∃ d, d < Z ∧ occ ((H k + d) % Z) = true ∧ key ((H k + d) % Z) = k ∧ ∀ e, e < d → occ ((H k + e) % Z) = true) ∧ cntB occ Z ≤ n
/-- where a key is, or would be: so far behind its own place -/
def prob (Z : Nat) (H : Int64 → Nat) (occ : Nat → Bool) (key : Nat → Int64) (k : Int64) (d : Nat) : Prop :=
  d < Z ∧ (∀ e, e < d → occ ((H k + e) % Z) = true ∧ ¬ key ((H k + e) % Z) = k) ∧ (occ ((H k + d) % Z) = true → key ((H k + d) % Z) = k)
theorem tab_probe {Z : Nat} {H : Int64 → Nat} {occ : Nat → Bool} {key : Nat → Int64} {ld : Nat → Nat} {S : Int64 → Option Nat} {n : Nat} (t : tabI Z H occ key ld S n) (hn : n < Z) (k : Int64) (hk : H k < Z) : ∃ d, prob Z H occ key k d ∧ (occ ((H k + d) % Z) = true → S k = some (ld ((H k + d) % Z))) ∧ (occ ((H k + d) % Z) = false → S k = none) := by
  obtain ⟨t1, t2, t3⟩ := t
  have hopen : ∃ q, q < Z ∧ occ q = false := by
    rcases Classical.em (∃ q, q < Z ∧ occ q = false) with q | q
    · exact q
    · have : cntB occ Z = Z := cntB_all Z (fun p hp => by
        cases hb : occ p with
        | true => rfl
        | false => exact absurd ⟨p, hp, hb⟩ q)
      omega
  obtain ⟨q, hq, oq⟩ := hopen
  have hat : ∃ d, d < Z ∧ (H k + d) % Z = q := by
    rcases Nat.lt_or_ge q (H k) with c | c
    · refine ⟨q + Z - H k, by omega, ?_⟩
      rw [show H k + (q + Z - H k) = q + Z from by omega, Nat.add_mod_right, Nat.mod_eq_of_lt hq]
    · refine ⟨q - H k, by omega, ?_⟩
      rw [show H k + (q - H k) = q from by omega, Nat.mod_eq_of_lt hq]
  obtain ⟨d0, hd0, e0⟩ := hat
  obtain ⟨d, hd, hmin⟩ := isMin_ex (P := fun d => occ ((H k + d) % Z) = false ∨ key ((H k + d) % Z) = k) d0 ⟨d0, Or.inl (by rw [e0]; exact oq), Nat.le_refl _⟩
  have hdz : d ≤ d0 := hmin d0 (Or.inl (by rw [e0]; exact oq))
  have hlt : ∀ e, e < d → occ ((H k + e) % Z) = true ∧ ¬ key ((H k + e) % Z) = k := fun e he => by
    refine ⟨?_, fun q => ?_⟩
    · cases hb : occ ((H k + e) % Z) with
      | true => rfl
      | false => have := hmin e (Or.inl hb); omega
    · have := hmin e (Or.inr q); omega
  have hky : occ ((H k + d) % Z) = true → key ((H k + d) % Z) = k := fun ho => by
    rcases hd with q | q
    · rw [ho] at q; exact absurd q (by decide)
    · exact q
  refine ⟨d, ⟨by omega, hlt, hky⟩, fun ho => ?_, fun ho => ?_⟩
  · have := t1 _ (Nat.mod_lt _ (by omega)) ho
    rw [hky ho] at this
    exact this
  · cases hs : S k with
    | none => rfl
    | some l =>
      obtain ⟨d', h1, h2, h3, h4⟩ := t2 k l hs
      have := hmin d' (Or.inr h3)
      rcases Nat.lt_or_ge d d' with c | c
      · rw [h4 d c] at ho; exact absurd ho (by decide)
      · have : d' = d := by omega
        rw [this, ho] at h2
        exact absurd h2 (by decide)
def setS (S : Int64 → Option Nat) (k : Int64) (l : Nat) : Int64 → Option Nat := fun k' => if k' = k then some l else S k'
theorem tab_insert {Z : Nat} {H : Int64 → Nat} {occ : Nat → Bool} {key : Nat → Int64} {ld : Nat → Nat} {S : Int64 → Option Nat} {n : Nat} (t : tabI Z H occ key ld S n) {k : Int64} {d l : Nat} (p : prob Z H occ key k d) (ho : occ ((H k + d) % Z) = false) (hs : S k = none) : tabI Z H (fun p => if p = (H k + d) % Z then true else occ p) (fun p => if p = (H k + d) % Z then k else key p) (fun p => if p = (H k + d) % Z then l else ld p) (setS S k l) (n + 1) := by
  obtain ⟨t1, t2, t3⟩ := t
  have hZ : 0 < Z := by have := p.1; omega
  refine ⟨fun q hq hoq => ?_, fun k' l' hs' => ?_, ?_⟩
  · by_cases e : q = (H k + d) % Z
    · show setS S k l (if q = (H k + d) % Z then k else key q) = some (if q = (H k + d) % Z then l else ld q)
      rw [if_pos e, if_pos e]
      unfold setS
      rw [if_pos rfl]
    · show setS S k l (if q = (H k + d) % Z then k else key q) = some (if q = (H k + d) % Z then l else ld q)
      have hoq : (if q = (H k + d) % Z then true else occ q) = true := hoq
      rw [if_neg e] at hoq
      rw [if_neg e, if_neg e]
      have := t1 q hq hoq
      unfold setS
      rw [if_neg (fun c => by rw [c, hs] at this; exact absurd this (by simp))]
      exact this
  · by_cases e : k' = k
    · subst e
      unfold setS at hs'
      rw [if_pos rfl] at hs'
      refine ⟨d, p.1, if_pos rfl, if_pos rfl, fun e he => ?_⟩
      show (if _ then true else _) = true
      rw [(p.2.1 e he).1]
      split <;> rfl
    · unfold setS at hs'
      rw [if_neg e] at hs'
      obtain ⟨d', h1, h2, h3, h4⟩ := t2 k' l' hs'
      have ne : ¬ (H k' + d') % Z = (H k + d) % Z := fun c => by rw [c, ho] at h2; exact absurd h2 (by decide)
      refine ⟨d', h1, ?_, ?_, fun e he => ?_⟩
      · show (if _ then true else _) = true
        rw [if_neg ne]; exact h2
      · show (if _ then k else _) = k'
        rw [if_neg ne]; exact h3
      · show (if _ then true else _) = true
        rw [h4 e he]
        split <;> rfl
  · have := cntB_set (occ := occ) ((H k + d) % Z) Z
    rw [if_pos (Nat.mod_lt _ hZ)] at this
    exact Nat.le_trans this (by omega)
theorem tab_empty {Z : Nat} {H : Int64 → Nat} {occ : Nat → Bool} {key : Nat → Int64} {ld : Nat → Nat} (h : ∀ p, p < Z → occ p = false) : tabI Z H occ key ld (fun _ => none) 0 :=
  ⟨fun p hp ho => by rw [h p hp] at ho; exact absurd ho (by decide), fun k l hs => absurd hs (by simp), by rw [cntB_none Z h]; exact Nat.le_refl 0⟩
/-! masks -/
theorem mask_bv : ∀ z, z ≤ 14 → (nI (2 ^ z) - 1).toBitVec.toNat = 2 ^ z - 1 := by decide
theorem and_mask (x : Int32) {z : Nat} (hz : z ≤ 14) : x &&& (nI (2 ^ z) - 1) = nI (x.toBitVec.toNat % 2 ^ z) := by
  have hlt : x.toBitVec.toNat % 2 ^ z < 2 ^ z := Nat.mod_lt _ (Nat.pow_pos (by decide))
  have hle : 2 ^ z ≤ 16384 := Nat.pow_le_pow_right (n := 2) (by decide) hz
  apply Int32.toBitVec_inj.mp
  apply BitVec.eq_of_toNat_eq
  rw [Int32.toBitVec_and, BitVec.toNat_and, mask_bv z hz, nI_bv (by omega)]
  exact Nat.and_two_pow_sub_one_eq_mod _ _
def cH (z : Nat) (k : Int64) : Nat := ((lushr (k * (-7046029254386353131)) 48).toInt32).toBitVec.toNat % 2 ^ z
theorem cH_lt (z : Nat) (k : Int64) : cH z k < 2 ^ z := Nat.mod_lt _ (Nat.pow_pos (by decide))
def mH (k : Int64) : Nat := ((lushr (k * 2654435761) 13) ^^^ k).toBitVec.toNat % 32768
theorem mH_lt (k : Int64) : mH k < 32768 := Nat.mod_lt _ (by decide)
theorem andL_mask (x : Int64) : (x &&& 32767).toInt32 = nI (x.toBitVec.toNat % 32768) := by
  have hlt : x.toBitVec.toNat % 32768 < 32768 := Nat.mod_lt _ (by decide)
  have e : (x &&& 32767).toBitVec.toNat = x.toBitVec.toNat % 32768 := by
    rw [Int64.toBitVec_and, BitVec.toNat_and, show (32767 : Int64).toBitVec.toNat = 2 ^ 15 - 1 from rfl]
    exact Nat.and_two_pow_sub_one_eq_mod _ _
  have e2 : (x &&& 32767).toInt = ((x.toBitVec.toNat % 32768 : Nat) : Int) := by
    show (x &&& 32767).toBitVec.toInt = _
    rw [BitVec.toInt_eq_toNat_of_lt (by rw [e]; omega), e]
  refine t_eq.mpr ?_
  rw [Int64.toInt_toInt32, e2, bm32 (by omega) (by omega), n_toInt (by omega)]
/-! the class's table -/
def cTab (z : Nat) (h : hp) (S : Int64 → Option Nat) (n : Nat) : Prop := gI h 68 2 = nI (2 ^ z) ∧ tabI (2 ^ z) (cH z) (fun p => decide (¬ gI h 70 p = 0)) (gL h 69) (fun p => (gI h 70 p).toInt.toNat - 1) S n ∧ ∀ p, p < 2 ^ z → 0 ≤ (gI h 70 p).toInt
def tScr (a _j : Nat) : Prop := a = 68 ∨ a = 69 ∨ a = 70
theorem tScr_c : ∀ a j, tScr a j → cScr a j := fun a j h => by unfold tScr at h; unfold cScr; omega
theorem c_leaderOf {z : Nat} {h : hp} {S : Int64 → Option Nat} {n one : Nat} {k : Int64} {Q : Int32 → hp → Prop} (hz : z ≤ 14) (a : cTab z h S n) (hn : n < 2 ^ z) (ho : one < 1000000) (hq1 : ∀ l, S k = some l → Q (nI l) h) (hq0 : ∀ h1, S k = none → cTab z h1 (setS S k one) (n + 1) → eqE tScr h h1 → Q (nI one) h1) : w_X4_leaderOf h k (nI one) Q := by
  obtain ⟨a1, a2, a3⟩ := a
  have hZ : 2 ^ z ≤ 16384 := Nat.pow_le_pow_right (n := 2) (by decide) hz
  have hZ0 : 0 < 2 ^ z := Nat.pow_pos (by decide)
  obtain ⟨d, hd, hs1, hs0⟩ := tab_probe a2 hn k (cH_lt z k)
  unfold w_X4_leaderOf w_X4_leaderOf_0
  intro y ey
  rw [a1, and_mask _ hz] at ey
  have ey : y = nI (cH z k) := ey
  subst ey
  unfold w_X4_leaderOf_21
  intro X hX
  have key : ∀ m e : Nat, m + e = d → X (nI ((cH z k + e) % 2 ^ z), nI e) := by
    intro m
    induction m with
    | zero =>
      intro e he
      have ee : e = d := by omega
      subst ee
      have hp : (cH z k + e) % 2 ^ z < 2 ^ z := Nat.mod_lt _ hZ0
      generalize hP : (cH z k + e) % 2 ^ z = p at hp
      have hin : vp_in (nI p) 16384 := in_n (by omega) (by omega)
      apply hX
      refine ⟨fun c => absurd c ?_, fun _ => ⟨hin, fun c => ⟨hin, fun c2 => absurd ?_ c2, fun c2 => ⟨hin, ?_⟩⟩, fun c => ⟨hin, fun h7 e7 => ⟨hin, fun h8 e8 => ?_⟩⟩⟩⟩
      · show ¬ gI h 68 2 ≤ nI e
        rw [a1]
        exact nI_ge hd.1 (by omega)
      · have c : ¬ gI h 70 (ix (nI p)) = 0 := c
        rw [ix_n (by omega)] at c
        show gL h 69 (ix (nI p)) = k
        rw [ix_n (by omega), ← hP]
        rw [← hP] at c
        exact hd.2.2 (decide_eq_true c)
      · have c : ¬ gI h 70 (ix (nI p)) = 0 := c
        rw [ix_n (by omega)] at c
        show Q (gI h 70 (ix (nI p)) - 1) h
        rw [ix_n (by omega)]
        have hpos := a3 p hp
        have hne : ¬ (gI h 70 p).toInt = 0 := fun q => c (t_eq.mpr q)
        have e1 : (1 : Int32).toInt = 1 := rfl
        have hhi := b_hi (gI h 70 p)
        have : gI h 70 p - 1 = nI ((gI h 70 p).toInt.toNat - 1) := t_eq.mpr (by
          rw [t_sub (by rw [e1]; omega) (by rw [e1]; omega), e1, n_toInt (by omega)]
          omega)
        rw [this]
        have := hs1 (by rw [hP]; exact decide_eq_true c)
        rw [hP] at this
        exact hq1 _ this
      · have c : gI h 70 (ix (nI p)) = 0 := c
        have e7 : h7 = sI h 70 (ix (nI p)) (nI one + 1) := e7
        have e8 : h8 = sL h7 69 (ix (nI p)) k := e8
        rw [ix_n (by omega)] at c e7 e8
        rw [← nI_succ] at e7
        subst e7
        have hof : (fun p => decide (¬ gI h 70 p = 0)) ((cH z k + e) % 2 ^ z) = false := by
          rw [hP]; exact decide_eq_false (fun q => q c)
        have hsn := hs0 hof
        have t := tab_insert (l := one) a2 hd hof hsn
        rw [hP] at t
        subst e8
        refine hq0 _ hsn ⟨a1, ?_, fun q hq => ?_⟩ (eqE_sL (eqE_sI (eqE_refl h) (Or.inr (Or.inr rfl))) (Or.inr (Or.inl rfl)))
        · have f1 : (fun q => decide (¬ gI (sL (sI h 70 p (nI (one + 1))) 69 p k) 70 q = 0)) = (fun q => if q = p then true else decide (¬ gI h 70 q = 0)) := by
            funext q
            rw [gI_sL, gI_sI]
            by_cases c2 : q = p
            · rw [if_pos ⟨rfl, c2⟩, if_pos c2]
              exact decide_eq_true (nI_ne0 (by omega) (by omega))
            · rw [if_neg (fun w => c2 w.2), if_neg c2]
          have f2 : gL (sL (sI h 70 p (nI (one + 1))) 69 p k) 69 = (fun q => if q = p then k else gL h 69 q) := by
            funext q
            rw [gL_sL, gL_sI]
            by_cases c2 : q = p
            · rw [if_pos ⟨rfl, c2⟩, if_pos c2]
            · rw [if_neg (fun w => c2 w.2), if_neg c2]
          have f3 : (fun q => (gI (sL (sI h 70 p (nI (one + 1))) 69 p k) 70 q).toInt.toNat - 1) = (fun q => if q = p then one else (gI h 70 q).toInt.toNat - 1) := by
            funext q
            rw [gI_sL, gI_sI]
            by_cases c2 : q = p
            · rw [if_pos ⟨rfl, c2⟩, if_pos c2, n_toInt (by omega)]
              omega
            · rw [if_neg (fun w => c2 w.2), if_neg c2]
          rw [f1, f2, f3]
          exact t
        · rw [gI_sL, gI_sI]
          by_cases c2 : q = p
          · rw [if_pos ⟨rfl, c2⟩, n_toInt (by omega)]; omega
          · rw [if_neg (fun w => c2 w.2)]; exact a3 q hq
    | succ m ih =>
      intro e he
      have hp : (cH z k + e) % 2 ^ z < 2 ^ z := Nat.mod_lt _ hZ0
      obtain ⟨h1, h2⟩ := hd.2.1 e (by omega)
      have nxt := ih (e + 1) (by omega)
      have emod : (cH z k + (e + 1)) % 2 ^ z = ((cH z k + e) % 2 ^ z + 1) % 2 ^ z := by rw [Nat.mod_add_mod, Nat.add_assoc]
      rw [emod] at nxt
      generalize (cH z k + e) % 2 ^ z = p at hp h1 h2 nxt
      have h1 : ¬ gI h 70 p = 0 := of_decide_eq_true h1
      have hin : vp_in (nI p) 16384 := in_n (by omega) (by omega)
      have hdz := hd.1
      apply hX
      refine ⟨fun c => absurd c ?_, fun _ => ⟨hin, fun c => ⟨hin, fun c2 x ex u eu => ?_, fun c2 => absurd ?_ h2⟩, fun c => absurd ?_ h1⟩⟩
      · show ¬ gI h 68 2 ≤ nI e
        rw [a1]
        exact nI_ge (by omega) (by omega)
      · have ex : x = (nI p + 1) &&& (gI h 68 2 - 1) := ex
        have eu : u = nI e + 1 := eu
        rw [a1, and_mask _ hz, ← nI_succ, nI_bv (by omega)] at ex
        rw [← nI_succ] at eu
        subst ex eu
        exact nxt
      · have c2 : gL h 69 (ix (nI p)) = k := c2
        rw [ix_n (by omega)] at c2
        exact c2
      · have c : gI h 70 (ix (nI p)) = 0 := c
        rw [ix_n (by omega)] at c
        exact c
  have := key d 0 (by omega)
  rw [Nat.add_zero, Nat.mod_eq_of_lt (cH_lt z k)] at this
  exact this
/-! the reference's table -/
def mTab (h : hp) (S : Int64 → Option Nat) (n : Nat) : Prop := tabI 32768 mH (fun p => decide (¬ gI h 35 p = -1)) (gL h 34) (fun p => (gI h 35 p).toInt.toNat) S n ∧ ∀ p, p < 32768 → gI h 35 p = -1 ∨ 0 ≤ (gI h 35 p).toInt
theorem m_keyAt {h : hp} {S : Int64 → Option Nat} {n one : Nat} {k : Int64} {Q : Int32 → hp → Prop} (a : mTab h S n) (hn : n < 32768) (ho : one < 1000000) (hq1 : ∀ p l, p < 32768 → S k = some l → ¬ gI h 35 p = -1 → gI h 35 p = nI l → gL h 34 p = k → Q (nI p) h) (hq0 : ∀ p, p < 32768 → S k = none → gI h 35 p = -1 → mTab (sL (sI h 35 p (nI one)) 34 p k) (setS S k one) (n + 1) → Q (nI p) (sL (sI h 35 p (nI one)) 34 p k)) : w_X12_keyAt h k (nI one) Q := by
  obtain ⟨a2, a3⟩ := a
  obtain ⟨d, hd, hs1, hs0⟩ := tab_probe a2 hn k (mH_lt k)
  unfold w_X12_keyAt w_X12_keyAt_0
  intro y ey
  rw [andL_mask] at ey
  have ey : y = nI (mH k) := ey
  subst ey
  unfold w_X12_keyAt_17
  intro X hX
  have key : ∀ m e : Nat, m + e = d → X (nI ((mH k + e) % 32768)) := by
    intro m
    induction m with
    | zero =>
      intro e he
      have ee : e = d := by omega
      subst ee
      have hp : (mH k + e) % 32768 < 32768 := Nat.mod_lt _ (by decide)
      generalize hP : (mH k + e) % 32768 = p at hp
      have hin : vp_in (nI p) 32768 := in_n (by omega) (by omega)
      have fin : (gL h 34 p = k ∨ gI h 35 p = -1) → w_X12_keyAt_52 Q k (nI one) (nI p) h := by
        intro hor
        unfold w_X12_keyAt_52
        rw [ix_n (by omega)]
        refine ⟨hin, fun c => ?_, fun c => ⟨hin, fun h6 e6 => ⟨hin, fun h7 e7 => ?_⟩⟩⟩
        · have hoc : (fun p => decide (¬ gI h 35 p = -1)) ((mH k + e) % 32768) = true := by rw [hP]; exact decide_eq_true c
          have hS := hs1 hoc
          rw [hP] at hS
          have hpos : 0 ≤ (gI h 35 p).toInt := by
            rcases a3 p hp with q | q
            · exact absurd q c
            · exact q
          refine hq1 p _ hp hS c (n_of hpos).1 ?_
          rcases hor with q | q
          · exact q
          · exact absurd q c
        · have hof : (fun p => decide (¬ gI h 35 p = -1)) ((mH k + e) % 32768) = false := by rw [hP]; exact decide_eq_false (fun q => q c)
          have hsn := hs0 hof
          have t := tab_insert (l := one) a2 hd hof hsn
          rw [hP] at t
          subst e6 e7
          refine hq0 p hp hsn c ⟨?_, fun q hq => ?_⟩
          · have f1 : (fun q => decide (¬ gI (sL (sI h 35 p (nI one)) 34 p k) 35 q = -1)) = (fun q => if q = p then true else decide (¬ gI h 35 q = -1)) := by
              funext q
              rw [gI_sL, gI_sI]
              by_cases c2 : q = p
              · rw [if_pos ⟨rfl, c2⟩, if_pos c2]
                refine decide_eq_true (fun w => ?_)
                have := congrArg Int32.toInt w
                rw [n_toInt (by omega), show (-1 : Int32).toInt = -1 from rfl] at this
                omega
              · rw [if_neg (fun w => c2 w.2), if_neg c2]
            have f2 : gL (sL (sI h 35 p (nI one)) 34 p k) 34 = (fun q => if q = p then k else gL h 34 q) := by
              funext q
              rw [gL_sL, gL_sI]
              by_cases c2 : q = p
              · rw [if_pos ⟨rfl, c2⟩, if_pos c2]
              · rw [if_neg (fun w => c2 w.2), if_neg c2]
            have f3 : (fun q => (gI (sL (sI h 35 p (nI one)) 34 p k) 35 q).toInt.toNat) = (fun q => if q = p then one else (gI h 35 q).toInt.toNat) := by
              funext q
              rw [gI_sL, gI_sI]
              by_cases c2 : q = p
              · rw [if_pos ⟨rfl, c2⟩, if_pos c2, n_toInt (by omega)]
                omega
              · rw [if_neg (fun w => c2 w.2), if_neg c2]
            rw [f1, f2, f3]
            exact t
          · rw [gI_sL, gI_sI]
            by_cases c2 : q = p
            · rw [if_pos ⟨rfl, c2⟩, n_toInt (by omega)]; exact Or.inr (by omega)
            · rw [if_neg (fun w => c2 w.2)]; exact a3 q hq
      apply hX
      unfold w_X12_keyAt_b17
      rw [ix_n (by omega)]
      refine ⟨hin, fun c => fin (Or.inr c), fun c => ⟨hin, fun c2 => fin (Or.inl c2), fun c2 => absurd ?_ c2⟩⟩
      have := hd.2.2 (by rw [hP]; exact decide_eq_true c)
      rw [hP] at this
      exact this
    | succ m ih =>
      intro e he
      have hp : (mH k + e) % 32768 < 32768 := Nat.mod_lt _ (by decide)
      obtain ⟨h1, h2⟩ := hd.2.1 e (by omega)
      have nxt := ih (e + 1) (by omega)
      have emod : (mH k + (e + 1)) % 32768 = ((mH k + e) % 32768 + 1) % 32768 := by rw [Nat.mod_add_mod, Nat.add_assoc]
      rw [emod] at nxt
      generalize (mH k + e) % 32768 = p at hp h1 h2 nxt
      have h1 : ¬ gI h 35 p = -1 := of_decide_eq_true h1
      have hin : vp_in (nI p) 32768 := in_n (by omega) (by omega)
      apply hX
      unfold w_X12_keyAt_b17
      rw [ix_n (by omega)]
      refine ⟨hin, fun c => absurd c h1, fun _ => ⟨hin, fun c2 => absurd c2 h2, fun _ x ex => ?_⟩⟩
      rw [← nI_succ, show (32768 : Int32) = nI 32768 from rfl, nI_rem (by omega) (by omega) (by omega)] at ex
      subst ex
      exact nxt
  have := key d 0 (by omega)
  rw [Nat.add_zero, Nat.mod_eq_of_lt (mH_lt k)] at this
  exact this
