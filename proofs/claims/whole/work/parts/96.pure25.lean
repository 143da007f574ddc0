/-! shareRow: the reference -/
theorem ctU_mono (set i : Nat) {a b : Nat} (h : a ≤ b) : ctU set i a ≤ ctU set i b := by
  induction b with
  | zero => rw [show a = 0 from by omega]; exact Nat.le_refl _
  | succ b ih =>
    rcases Nat.lt_or_ge b a with q | q
    · rw [show a = b + 1 from by omega]; exact Nat.le_refl _
    · have := ih q
      show ctU set i a ≤ ctU set i b + _
      omega
theorem m_fillsRow {h : hp} {s P N set : Nat} {AT WH : Nat → Nat} {Q : hp → Prop} (t : mAt h s) (a : mSh s h N AT WH) (aP : gI h 12 s = nI P) (ok : okSh P N AT WH) (hs : set < 2147483648) (h6 : popN set 8 ≤ 6) (hq : ∀ h1, eqE mScr h h1 → (∀ k, k < 6 → gI h1 43 k = rsV P (cfF P AT WH N set k N)) → Q h1) : w_X12_fillsRow h (nI set) Q := by
  have n8 := ok.1
  have okp := ok.2.1.1
  have hP := okp.2
  have hP2 := okp.1
  have hs2 := t.2
  have rs1 : rsV P 1 = 1 := t_eq.mpr (by rw [(rs_96 okp 1).1, Int.emod_eq_of_lt (by omega) (by omega)]; rfl)
  have rs0 : rsV P 0 = 0 := t_eq.mpr (by rw [(rs_96 okp 0).1, Int.zero_emod]; rfl)
  have hpN : popN set N ≤ 6 := Nat.le_trans (pop_mono set n8) h6
  -- what stands all along
  have mS : ∀ {g : hp}, eqE mScr h g → mAt g s ∧ gI g 12 s = nI P ∧ (∀ i, i < N → gI g 14 (8 * s + i) = nI (AT i) ∧ gI g 15 (8 * s + i) = nI (WH i)) ∧ gI g 13 (ix (gI g 0 18)) = nI N ∧ gI g 0 18 = nI s := fun {g} e => by
    have tg := mAt_e e t
    refine ⟨tg, by rw [eqE_I e (by unfold mScr; omega)]; exact aP, fun i hi => ⟨by rw [eqE_I e (by unfold mScr; omega)]; exact (a.2 i hi).1, by rw [eqE_I e (by unfold mScr; omega)]; exact (a.2 i hi).2⟩, ?_, tg.1⟩
    rw [tg.1, ix_n (by omega), eqE_I e (by unfold mScr; omega)]
    exact a.1
  have hin : vp_in (nI s) 2 := in_n hs2 (by omega)
  -- the shares
  have shares : ∀ g : hp, eqE mScr h g → (∀ k, k < 6 → gI g 43 k = rsV P (cfF P AT WH N set k 0)) → w_X12_fillsRow_23 Q (nI set) 0 g := by
    intro g xg rg
    unfold w_X12_fillsRow_23
    intro X hX
    have key : ∀ (n i : Nat) (g : hp), n + i = N → eqE mScr h g → (∀ k, k < 6 → gI g 43 k = rsV P (cfF P AT WH N set k i)) → X (nI i, g) := by
      intro n
      induction n with
      | zero =>
        intro i g hi xg rg
        have ei : i = N := by omega
        subst ei
        obtain ⟨tg, aPg, ag, eN, e18⟩ := mS xg
        apply hX
        unfold w_X12_fillsRow_b23
        rw [eN, e18]
        exact ⟨hin, fun _ => hq g xg rg, fun c => absurd (nI_le (Nat.le_refl _) (by omega)) c⟩
      | succ n ih =>
        intro i g hi xg rg
        have hi8 : i < N := by omega
        have ai := ok.2.2 i hi8
        have nxt := ih (i + 1)
        obtain ⟨tg, aPg, ag, eN, e18⟩ := mS xg
        have eAi := n_toInt (n := AT i) (by omega)
        have eWi := n_toInt (n := WH i) (by omega)
        apply hX
        unfold w_X12_fillsRow_b23
        rw [eN, e18, m_bitc hs (by omega), e8s hs2 (by omega), ix_n (n := 8 * s + i) (by omega), (ag i hi8).2]
        refine ⟨hin, fun c => absurd c (nI_ge (by omega) (by omega)), fun _ => ⟨fun c => ⟨in_n (by omega) (by omega), m_restOf tg aPg okp ⟨in_n (k := 0) (by omega) (by omega), fun h8 e8 => ?_⟩⟩, fun c u eu => ?_⟩⟩
        · have b : set / 2 ^ i % 2 = 1 := Classical.not_not.mp c
          have hct := ct_pop b N
          rw [if_pos hi8] at hct
          have e8 : h8 = sI g 44 0 1 := e8
          have x8 : eqE mScr h h8 := by rw [e8]; exact eqE_sI xg (by unfold mScr; omega)
          have r8 : ∀ k, k < 6 → gI h8 43 k = rsV P (cfF P AT WH N set k i) := fun k hk => by rw [e8, gI_o _ _ (by decide)]; exact rg k hk
          have p8 : ∀ k, k ≤ ctU set i 0 → gI h8 44 k = rsV P (pcF AT set i 0 k) := fun k hk => by
            have k0 : k = 0 := by
              have : k ≤ 0 := hk
              omega
            subst k0
            show _ = rsV P (if 0 = 0 then 1 else 0)
            rw [if_pos rfl, rs1, e8]
            exact gI_at _ _ _ _
          clear e8
          rw [eWi]
          show w_X12_fillsRow_79 Q X (nI set) (nI i) 0 (rsV P (WH i : Int)) 0 h8
          have eb0 : rsV P (WH i : Int) = rsV P ((WH i : Int) * ivF P AT set i 0) := by
            show _ = rsV P ((WH i : Int) * 1)
            rw [Int.mul_one]
          rw [eb0]
          unfold w_X12_fillsRow_79
          intro Y hY
          have key2 : ∀ (m j : Nat) (g : hp), m + j = N → eqE mScr h g → (∀ k, k < 6 → gI g 43 k = rsV P (cfF P AT WH N set k i)) → (∀ k, k ≤ ctU set i j → gI g 44 k = rsV P (pcF AT set i j k)) → Y (nI (ctU set i j), rsV P ((WH i : Int) * ivF P AT set i j), nI j, g) := by
            intro m
            induction m with
            | zero =>
              intro j g hj xg rg pg
              have ej : j = N := by omega
              subst ej
              obtain ⟨tg, aPg, ag, eN, e18⟩ := mS xg
              apply hY
              unfold w_X12_fillsRow_b79
              rw [eN, e18]
              refine ⟨hin, fun _ => ?_, fun c => absurd (nI_le (Nat.le_refl _) (by omega)) c⟩
              obtain ⟨f1, f2, f3, f4⟩ := rs_96 okp ((WH i : Int) * ivF P AT set i j)
              show w_X12_fillsRow_242 Q X (nI set) (nI i) (nI (ctU set i j)) (rsV P ((WH i : Int) * ivF P AT set i j)) 0 g
              generalize rsV P ((WH i : Int) * ivF P AT set i j) = fac at f1 f2 f3 f4
              unfold w_X12_fillsRow_242
              intro Z hZ
              have key4 : ∀ (m k : Nat) (g : hp), m + k = ctU set i j + 1 → eqE mScr h g → (∀ l, l ≤ ctU set i j → gI g 44 l = rsV P (pcF AT set i j l)) → (∀ l, l < 6 → gI g 43 l = rsV P (if l < k then cfF P AT WH j set l (i + 1) else cfF P AT WH j set l i)) → Z (nI k, g) := by
                intro m
                induction m with
                | zero =>
                  intro k g hk xg pg rg
                  have ek : k = ctU set i j + 1 := by omega
                  subst ek
                  apply hZ
                  refine ⟨fun _ u eu => ?_, fun c => absurd (nI_lt (by omega) (by omega)) c⟩
                  have eu : u = nI i + 1 := eu
                  rw [← nI_succ] at eu
                  subst eu
                  refine nxt g (by omega) xg (fun l hl => ?_)
                  rw [rg l hl]
                  by_cases c : l < ctU set i j + 1
                  · rw [if_pos c]
                  · rw [if_neg c]
                    show _ = rsV P (if set / 2 ^ i % 2 = 1 then cfF P AT WH j set l i + ((WH i : Int) * ivF P AT set i j) * pcF AT set i j l else _)
                    rw [if_pos b, pcF_0 j l (by omega), Int.mul_zero, Int.add_zero]
                | succ m ih4 =>
                  intro k g hk xg pg rg
                  obtain ⟨tg, aPg, ag, eN, e18⟩ := mS xg
                  obtain ⟨q1, q2, q3, q4⟩ := rs_96 okp (pcF AT set i j k)
                  obtain ⟨v1, v2, v3, v4⟩ := rs_96 okp (cfF P AT WH j set k i)
                  have em := t_ma (x := rsV P (cfF P AT WH j set k i)) (y := fac) (z := rsV P (pcF AT set i j k)) ⟨v2, v3⟩ ⟨by omega, by omega⟩ ⟨q2, q3⟩
                  apply hZ
                  unfold w_X12_fillsRow_b242
                  rw [ix_n (n := k) (by omega), pg k (by omega), rg k (by omega), if_neg (Nat.lt_irrefl k)]
                  refine ⟨fun c => absurd c (nI_nlt (by omega) (by omega)), fun _ => ⟨in_n (by omega) (by omega), in_n (by omega) (by omega), m_restOf tg aPg okp ⟨in_n (by omega) (by omega), fun h35 e35 u eu => ?_⟩⟩⟩
                  rw [em] at e35
                  rw [← nI_succ] at eu
                  subst eu
                  refine ih4 (k + 1) h35 (by omega) ?_ (fun l hl => ?_) (fun l hl => ?_)
                  · rw [e35]; exact eqE_sI xg (by unfold mScr; omega)
                  · rw [e35, gI_o _ _ (by omega)]; exact pg l hl
                  · by_cases c : l = k
                    · subst c
                      rw [e35, gI_at, if_pos (Nat.lt_succ_self l)]
                      show _ = rsV P (if set / 2 ^ i % 2 = 1 then cfF P AT WH j set l i + ((WH i : Int) * ivF P AT set i j) * pcF AT set i j l else _)
                      rw [if_pos b]
                      exact rs_cg okp (cg_add v4 (cg_mul f4 q4))
                    · rw [e35, gI_k _ _ c, rg l hl]
                      by_cases c2 : l < k
                      · rw [if_pos c2, if_pos (show l < k + 1 by omega)]
                      · rw [if_neg c2, if_neg (show ¬ l < k + 1 by omega)]
              exact key4 (ctU set i j + 1) 0 g (by omega) xg pg (fun l hl => by rw [if_neg (by omega)]; exact rg l hl)
            | succ m ih2 =>
              intro j g hj xg rg pg
              have hj8 : j < N := by omega
              have aj := ok.2.2 j hj8
              have eAj := n_toInt (n := AT j) (by omega)
              have nx := ih2 (j + 1)
              have hcm := ctU_mono set i (show j + 1 ≤ N from hj8)
              obtain ⟨tg, aPg, ag, eN, e18⟩ := mS xg
              have ecs : ctU set i (j + 1) = ctU set i j + (if useP set i j then 1 else 0) := rfl
              have skip : ¬ useP set i j → Y (nI (ctU set i j), rsV P ((WH i : Int) * ivF P AT set i j), nI (j + 1), g) := fun c => by
                rw [if_neg c, Nat.add_zero] at ecs
                have e2 : ivF P AT set i (j + 1) = ivF P AT set i j := by
                  show (if useP set i j then _ else ivF P AT set i j) = _
                  rw [if_neg c]
                have := nx g (by omega) xg rg (fun k hk => by
                  rw [pg k (by omega)]
                  show _ = rsV P (if useP set i j then _ else pcF AT set i j k)
                  rw [if_neg c])
                rw [ecs, e2] at this
                exact this
              apply hY
              unfold w_X12_fillsRow_b79
              rw [eN, m_bitc hs (by omega), e18, e8s hs2 (by omega), e8s hs2 (by omega), ix_n (n := 8 * s + i) (by omega), ix_n (n := 8 * s + j) (by omega), (ag i hi8).1, (ag j hj8).1]
              refine ⟨hin, fun c => absurd c (nI_ge (by omega) (by omega)), fun _ => ⟨fun c u eu => ?_, fun c => ⟨fun c2 => ⟨in_n (by omega) (by omega), fun x6 e6 => ⟨in_n (by omega) (by omega), ?_⟩⟩, fun c2 u eu => ?_⟩⟩⟩
              · rw [← nI_succ] at eu
                subst eu
                exact skip (fun q => q.1 ((nI_eq (by omega) (by omega)).mp c))
              · have use : useP set i j := ⟨fun q => c (congrArg nI q), Classical.not_not.mp c2⟩
                rw [if_pos use] at ecs
                have e2 : ivF P AT set i (j + 1) = ivF P AT set i j * (ivN P ((AT i : Int) - (AT j : Int)) : Int) := by
                  show (if useP set i j then _ else _) = _
                  rw [if_pos use]
                have ne := at_ne ok hi8 hj8 (fun q => use.1 q)
                have hv := ivN_at ok.2.1 ne
                have eV := n_toInt (n := ivN P ((AT i : Int) - (AT j : Int))) (by omega)
                have ed2 : (nI (AT i) - nI (AT j)).toInt = (AT i : Int) - AT j := by rw [t_sub (by rw [eAi, eAj]; omega) (by rw [eAi, eAj]; omega), eAi, eAj]
                subst e6
                refine m_restOf tg aPg okp ?_
                rw [ed2]
                refine m_turned tg aPg ok.2.1 rfl ne ?_
                obtain ⟨q1, q2, q3, q4⟩ := rs_96 okp ((WH i : Int) * ivF P AT set i j)
                have em2 := (t_mm (y := rsV P ((WH i : Int) * ivF P AT set i j)) (z := nI (ivN P ((AT i : Int) - (AT j : Int)))) ⟨by omega, by omega⟩ ⟨by omega, by omega⟩).1
                rw [eV] at em2
                show w_X12_restOf g (rsV P ((WH i : Int) * ivF P AT set i j) * nI (ivN P ((AT i : Int) - (AT j : Int)))) _
                refine m_restOf tg aPg okp ?_
                rw [em2, rs_cg okp (cg_mul q4 (cg_r _))]
                rw [ecs, e2, ← Int.mul_assoc] at nx
                generalize rsV P ((WH i : Int) * ivF P AT set i j * (ivN P ((AT i : Int) - (AT j : Int)) : Int)) = by' at nx
                refine ⟨in_n (by omega) (by omega), ?_⟩
                show vp_in (nI (ctU set i j) + 1) 7 ∧ ∀ h21, h21 = sI g 44 (ix (nI (ctU set i j) + 1)) (gI g 44 (ix (nI (ctU set i j)))) → w_X12_fillsRow_179 Q X Y (nI set) (nI i) (nI (ctU set i j)) by' (nI j) (nI (AT j)) (nI (ctU set i j)) h21
                rw [← nI_succ, ix_n (n := ctU set i j + 1) (by omega), ix_n (n := ctU set i j) (by omega), pg _ (Nat.le_refl _)]
                refine ⟨in_n (by omega) (by omega), fun h21 e21 => ?_⟩
                have x21 : eqE mScr h h21 := by rw [e21]; exact eqE_sI xg (by unfold mScr; omega)
                have r21 : ∀ k, k < 6 → gI h21 43 k = rsV P (cfF P AT WH N set k i) := fun k hk => by rw [e21, gI_o _ _ (by decide)]; exact rg k hk
                have lo21 : ∀ l, l ≤ ctU set i j → gI h21 44 l = rsV P (pcF AT set i j l) := fun l hl => by rw [e21, gI_k _ _ (by omega)]; exact pg l hl
                have hi21 : gI h21 44 (ctU set i j + 1) = rsV P (pcF AT set i (j + 1) (ctU set i j + 1)) := by
                  rw [e21, gI_at]
                  show _ = rsV P (if useP set i j then (if ctU set i j + 1 = 0 then 0 else pcF AT set i j (ctU set i j + 1 - 1)) - (AT j : Int) * pcF AT set i j (ctU set i j + 1) else _)
                  rw [if_pos use, if_neg (by omega), Nat.add_sub_cancel, pcF_0 j (ctU set i j + 1) (by omega), Int.mul_zero, Int.sub_zero]
                clear e21
                unfold w_X12_fillsRow_179
                intro Z hZ
                have e1' : (-1 : Int32).toInt = -1 := rfl
                have key3 : ∀ (k : Nat) (g : hp), k ≤ ctU set i j + 1 → eqE mScr h g → (∀ l, l < 6 → gI g 43 l = rsV P (cfF P AT WH N set l i)) → (∀ l, l < k → gI g 44 l = rsV P (pcF AT set i j l)) → (∀ l, k ≤ l → l ≤ ctU set i j + 1 → gI g 44 l = rsV P (pcF AT set i (j + 1) l)) → Z (nI k - 1, g) := by
                  intro k
                  induction k with
                  | zero =>
                    intro g _ xg rg lo hi'
                    apply hZ
                    refine ⟨fun _ y ey u eu => ?_, fun c => absurd (show (nI 0 - 1) < 0 by decide) c⟩
                    rw [← nI_succ] at ey eu
                    subst ey eu
                    exact nx g (by omega) xg rg (fun l hl => hi' l (Nat.zero_le _) hl)
                  | succ k ih3 =>
                    intro g hk xg rg lo hi'
                    rw [nI_pred]
                    obtain ⟨tg, aPg, ag, eN, e18⟩ := mS xg
                    obtain ⟨q1, q2, q3, q4⟩ := rs_96 okp (pcF AT set i j k)
                    -- behind what is ahead of it
                    have fin : ∀ (y : Int32) (z : Int), (0 ≤ y.toInt ∧ y.toInt ≤ 96) → cg P y.toInt z → z - (AT j : Int) * pcF AT set i j k = pcF AT set i (j + 1) k → w_X12_fillsRow_209 Q X Y Z (nI set) (nI i) (nI (ctU set i j)) by' (nI j) (nI (AT j)) (nI k) g y (nI k) := by
                      intro y z hy hc hz
                      have em := t_ms (x := y) (y := nI (AT j)) (z := rsV P (pcF AT set i j k)) hy ⟨by omega, by omega⟩ ⟨q2, q3⟩
                      unfold w_X12_fillsRow_209
                      rw [ix_n (n := k) (by omega), lo k (Nat.lt_succ_self k)]
                      refine ⟨in_n (by omega) (by omega), m_restOf tg aPg okp ⟨in_n (by omega) (by omega), fun h29 e29 u eu => ?_⟩⟩
                      rw [em, eAj, rs_cg okp (cg_sub hc (cg_mul (cg_r _) q4)), hz] at e29
                      rw [m1] at eu
                      subst eu
                      refine ih3 h29 (by omega) ?_ (fun l hl => ?_) (fun l hl => ?_) (fun l h1 h2 => ?_)
                      · rw [e29]; exact eqE_sI xg (by unfold mScr; omega)
                      · rw [e29, gI_o _ _ (by decide)]; exact rg l hl
                      · rw [e29, gI_k _ _ (by omega)]; exact lo l (by omega)
                      · by_cases c : l = k
                        · subst c
                          rw [e29]; exact gI_at _ _ _ _
                        · rw [e29, gI_k _ _ c]; exact hi' l (by omega) h2
                    have epc : pcF AT set i (j + 1) k = (if k = 0 then 0 else pcF AT set i j (k - 1)) - (AT j : Int) * pcF AT set i j k := by
                      show (if useP set i j then _ else _) = _
                      rw [if_pos use]
                    apply hZ
                    refine ⟨fun c => absurd c (nI_pos (by omega)), fun _ => ⟨fun c => ?_, fun c => ?_⟩⟩
                    · have c := (nI_leI (b := 0) (by omega) (by omega)).mp c
                      have k0 : k = 0 := by omega
                      refine fin 0 0 (by decide) (cg_r _) ?_
                      rw [epc, if_pos k0]
                    · have c : ¬ k = 0 := fun q => c (by rw [q]; exact Int32.le_refl 0)
                      obtain ⟨k', rfl⟩ : ∃ k', k = k' + 1 := ⟨k - 1, by omega⟩
                      obtain ⟨v1, v2, v3, v4⟩ := rs_96 okp (pcF AT set i j k')
                      show vp_in (nI (k' + 1) - 1) 7 ∧ w_X12_fillsRow_209 Q X Y Z (nI set) (nI i) (nI (ctU set i j)) by' (nI j) (nI (AT j)) (nI (k' + 1)) g (gI g 44 (ix (nI (k' + 1) - 1))) (nI (k' + 1))
                      rw [nI_pred, ix_n (n := k') (by omega), lo k' (by omega)]
                      refine ⟨in_n (by omega) (by omega), fin _ (pcF AT set i j k') ⟨v2, v3⟩ v4 ?_⟩
                      rw [epc, if_neg c]
                      rfl
                have := key3 (ctU set i j + 1) h21 (Nat.le_refl _) x21 r21 (fun l hl => lo21 l (by omega)) (fun l h1 h2 => by rw [show l = ctU set i j + 1 from by omega]; exact hi21)
                rw [nI_pred] at this
                exact this
              · rw [← nI_succ] at eu
                subst eu
                exact skip (fun q => c2 q.2)
          exact key2 N 0 h8 (by omega) x8 r8 p8
        · rw [← nI_succ] at eu
          subst eu
          refine nxt g (by omega) xg (fun k hk => ?_)
          rw [rg k hk]
          show _ = rsV P (if set / 2 ^ i % 2 = 1 then _ else cfF P AT WH N set k i)
          rw [if_neg c]
    exact key N 0 g (by omega) xg rg
  unfold w_X12_fillsRow w_X12_fillsRow_0 w_X12_fillsRow_2
  intro X hX
  have key : ∀ (n k : Nat) (g : hp), n + k = 6 → eqE mScr h g → (∀ l, l < k → gI g 43 l = 0) → X (nI k, g) := by
    intro n
    induction n with
    | zero =>
      intro k g hk xg zg
      have ek : k = 6 := by omega
      subst ek
      apply hX
      refine ⟨fun _ => shares g xg (fun l hl => ?_), fun c => absurd (show (6 : Int32) ≤ nI 6 by decide) c⟩
      rw [zg l hl]
      exact rs0.symm
    | succ n ih =>
      intro k g hk xg zg
      apply hX
      refine ⟨fun c => absurd c (nI_ge (b := 6) (by omega) (by omega)), fun _ => ⟨in_n (by omega) (by omega), fun h2 e2 u eu => ?_⟩⟩
      have e2 : h2 = sI g 43 (ix (nI k)) 0 := e2
      have eu : u = nI k + 1 := eu
      rw [ix_n (by omega)] at e2
      rw [← nI_succ] at eu
      subst eu
      refine ih (k + 1) h2 (by omega) ?_ (fun l hl => ?_)
      · rw [e2]; exact eqE_sI xg (by unfold mScr; omega)
      · by_cases c : l = k
        · subst c
          rw [e2]; exact gI_at _ _ _ _
        · rw [e2, gI_k _ _ c]; exact zg l (by omega)
  exact key 6 0 h (by omega) (eqE_refl h) (fun l h => by omega)
theorem m_shareRow {h : hp} {s P N : Nat} {AT WH : Nat → Nat} {x y : Int32} {Q : Int32 → hp → Prop} (t : mAt h s) (a : mSh s h N AT WH) (aP : gI h 12 s = nI P) (ok : okSh P N AT WH) (hq1 : ∀ h1, isS N x ∧ 0 ≤ y.toInt ∧ y.toInt < (popN x.toInt.toNat 8 : Int) → eqE mScr h h1 → Q (rsV P (cfF P AT WH N x.toInt.toNat y.toInt.toNat N)) h1) (hq0 : ¬ (isS N x ∧ 0 ≤ y.toInt ∧ y.toInt < (popN x.toInt.toNat 8 : Int)) → Q (-1) h) : w_X12_shareRow h x y Q := by
  have z0 : (0 : Int64).toInt = 0 := rfl
  have i1 : (1 : Int32).toInt = 1 := rfl
  unfold w_X12_shareRow w_X12_shareRow_0
  refine m_isSet t a.1 ok.1 (fun z => ⟨fun c => absurd c (by decide), fun _ => ?_⟩) (fun z => ⟨fun _ => hq0 (fun q => z q.1), fun c => absurd rfl c⟩)
  obtain ⟨set, es, es2, s256, s1, sM, s6⟩ := isS_n ok.1 z
  rw [es2] at hq1 hq0
  subst es
  have hp1 := pop_pos set s256 s1
  have eP' := n_toInt (n := popN set 8) (by omega)
  have e1 : (nI (popN set 8) - 1).toInt = (popN set 8 : Int) - 1 := by rw [t_sub (by rw [eP', i1]; omega) (by rw [eP', i1]; omega), eP', i1]
  refine m_bits (by omega) (m_in (fun c => ⟨fun _ => ?_, fun q => absurd q (by decide)⟩) (fun c => ⟨fun q => absurd rfl q, fun _ => hq0 (fun q => c ?_)⟩))
  · rw [tL_int, tL_int, e1, z0] at c
    refine m_fillsRow t a aP ok (by omega) s6 (fun h9 x9 r9 => ?_)
    have hq := hq1 h9 ⟨z, by omega, by omega⟩ x9
    obtain ⟨ey, hy⟩ := n_of (x := y) (by omega)
    have hy6 : y.toInt.toNat < 6 := by omega
    generalize y.toInt.toNat = k at ey hy hy6 hq
    subst ey
    rw [ix_n hy, r9 k hy6]
    exact ⟨in_n hy6 hy, hq⟩
  · rw [tL_int, tL_int, e1, z0]
    have := q.2
    omega
/-! wrong -/
noncomputable def offV (P N : Nat) (AT WH : Nat → Nat) (set : Nat) : Nat := bsP (fun i => ¬ secV P N AT WH set (AT i) = rsV P (WH i : Int)) N
noncomputable def wrF (P N : Nat) (AT WH : Nat → Nat) (n : Nat) : Nat → Option Nat → Option Nat
  | 0, b => b
  | m + 1, b => wrF P N AT WH n m (if popN (2 ^ N - (m + 1)) 8 = n then (match b with
    | none => some (offV P N AT WH (2 ^ N - (m + 1)))
    | some v => if popN (offV P N AT WH (2 ^ N - (m + 1))) 8 < popN v 8 then some (offV P N AT WH (2 ^ N - (m + 1))) else some v) else b)
theorem wrF_s {P N n m : Nat} {AT WH : Nat → Nat} {b : Option Nat} : wrF P N AT WH n (m + 1) b = wrF P N AT WH n m (if popN (2 ^ N - (m + 1)) 8 = n then (match b with
    | none => some (offV P N AT WH (2 ^ N - (m + 1)))
    | some v => if popN (offV P N AT WH (2 ^ N - (m + 1))) 8 < popN v 8 then some (offV P N AT WH (2 ^ N - (m + 1))) else some v) else b) := rfl
theorem wrF_some {P N n : Nat} {AT WH : Nat → Nat} : ∀ (m v : Nat), ∃ w, wrF P N AT WH n m (some v) = some w
  | 0, v => ⟨v, rfl⟩
  | m + 1, v => by
    unfold wrF
    by_cases c : popN (2 ^ N - (m + 1)) 8 = n
    · rw [if_pos c]
      show ∃ w, wrF P N AT WH n m (if popN (offV P N AT WH (2 ^ N - (m + 1))) 8 < popN v 8 then some (offV P N AT WH (2 ^ N - (m + 1))) else some v) = some w
      by_cases c2 : popN (offV P N AT WH (2 ^ N - (m + 1))) 8 < popN v 8
      · rw [if_pos c2]; exact wrF_some m _
      · rw [if_neg c2]; exact wrF_some m v
    · rw [if_neg c]; exact wrF_some m v
theorem wrF_ex {P N n set : Nat} {AT WH : Nat → Nat} (h1 : set < 2 ^ N) (h2 : popN set 8 = n) : ∀ m, m < 2 ^ N → 2 ^ N - m ≤ set → ∃ w, wrF P N AT WH n m none = some w
  | 0, _, h => by omega
  | m + 1, hm, h => by
    unfold wrF
    by_cases c : popN (2 ^ N - (m + 1)) 8 = n
    · rw [if_pos c]
      exact wrF_some m _
    · rw [if_neg c]
      have : ¬ 2 ^ N - (m + 1) = set := fun q => c (by rw [q]; exact h2)
      exact wrF_ex h1 h2 m (by omega) (by omega)
theorem pop_full : ∀ n, n ≤ 8 → popN (2 ^ n - 1) 8 = n := by decide +kernel
theorem offV_lt {P N set : Nat} {AT WH : Nat → Nat} (hN : N ≤ 8) : offV P N AT WH set < 256 := Nat.lt_of_lt_of_le (bsP_lt _ N) (pow_8 hN)
theorem c_sharesOff {o : Nat} {h : hp} {N P set : Nat} {AT WH : Nat → Nat} {Q : Int32 → Prop} (a : cSh o h N AT WH) (aP : gI h o 1 = nI P) (ok : okSh P N AT WH) (h6 : popN set 8 ≤ 6) (row : ∀ k, k < 6 → gI h (o + 4) k = rsV P (cfF P AT WH N set k N)) (hq : Q (nI (offV P N AT WH set))) : w_X6_sharesOff o h Q := by
  have n8 := ok.1
  have okp := ok.2.1.1
  have hP := okp.2
  unfold w_X6_sharesOff w_X6_sharesOff_0 w_X6_sharesOff_4
  intro X hX
  have key : ∀ n i : Nat, n + i = N → X (nI (bsP (fun i => ¬ secV P N AT WH set (AT i) = rsV P (WH i : Int)) i), nI i) := by
    intro n
    induction n with
    | zero =>
      intro i hi
      have ei : i = N := by omega
      subst ei
      apply hX
      unfold w_X6_sharesOff_b4
      rw [a.1]
      exact ⟨fun _ => hq, fun c => absurd (nI_le (Nat.le_refl _) (by omega)) c⟩
    | succ n ih =>
      intro i hi
      have hi8 : i < N := by omega
      have ai := ok.2.2 i hi8
      have nxt := ih (i + 1) (by omega)
      have eb : bsP (fun i => ¬ secV P N AT WH set (AT i) = rsV P (WH i : Int)) (i + 1) = bsP (fun i => ¬ secV P N AT WH set (AT i) = rsV P (WH i : Int)) i + ifC (¬ secV P N AT WH set (AT i) = rsV P (WH i : Int)) (2 ^ i) 0 := rfl
      rw [eb] at nxt
      have eWi := n_toInt (n := WH i) (by omega)
      apply hX
      unfold w_X6_sharesOff_b4
      rw [a.1, ix_n (n := i) (by omega), (a.2 i hi8).1, (a.2 i hi8).2]
      refine ⟨fun c => absurd c (nI_ge (by omega) (by omega)), fun _ => ⟨in_n (by omega) (by omega), c_comesAt aP okp (by omega) row ⟨in_n (by omega) (by omega), c_restOf aP okp (by rw [tL_int, eWi]; omega) ?_⟩⟩⟩
      rw [sm_rc n8 h6, tL_int, eWi]
      show (secV P N AT WH set (AT i) = rsV P (WH i : Int) → _) ∧ (¬ secV P N AT WH set (AT i) = rsV P (WH i : Int) → _)
      refine ⟨fun c u eu => ?_, fun c y ey u eu => ?_⟩
      · have eu : u = nI i + 1 := eu
        rw [← nI_succ] at eu
        subst eu
        rw [ifC_neg (fun q => q c), Nat.add_zero] at nxt
        exact nxt
      · have eu : u = nI i + 1 := eu
        have ey : y = nI (bsP (fun i => ¬ secV P N AT WH set (AT i) = rsV P (WH i : Int)) i) ||| jshl 1 (nI i) := ey
        rw [or_nI (bsP_lt _ i) (by omega)] at ey
        rw [← nI_succ] at eu
        subst eu ey
        rw [ifC_pos c] at nxt
        exact nxt
  exact key N 0 (by omega)
theorem isS_of {N set : Nat} (hN : N ≤ 8) (h1 : 1 ≤ set) (h2 : set < 2 ^ N) (h6 : popN set 8 ≤ 6) : isS N (nI set) := by
  have h8 := pow_8 hN
  have e := n_toInt (n := set) (by omega)
  refine ⟨by omega, by omega, ?_⟩
  rw [e]
  exact h6
theorem c_wrong {h : hp} {o P N : Nat} {AT WH : Nat → Nat} {x : Int32} {Q : Int32 → hp → Prop} (t : cAt h o) (ho : isO o) (a : shO o h P N AT WH) (ok : okSh P N AT WH) (hq0 : ¬ (1 ≤ x.toInt ∧ x.toInt ≤ 6) → Q (-1) h) (hq1 : 1 ≤ x.toInt ∧ x.toInt ≤ 6 → (N : Int) < x.toInt → Q (-2) h) (hq2 : ∀ w h1, 1 ≤ x.toInt ∧ x.toInt ≤ 6 → x.toInt ≤ (N : Int) → wrF P N AT WH x.toInt.toNat (2 ^ N - 1) none = some w → eqE cScr h h1 → Q (nI w) h1) : w_X11_wrong h x Q := by
  have n8 := ok.1
  have h8 := pow_8 n8
  have hpos : 0 < 2 ^ N := Nat.pow_pos (by decide)
  have eN := n_toInt (n := N) (by omega)
  unfold w_X11_wrong w_X11_wrong_0
  rw [t.1, a.1.1]
  refine c_within (fun c => ⟨fun _ => ⟨t.2, fun c2 => ⟨t.2, ?_⟩, fun c2 => hq1 ?_ ?_⟩, fun q => absurd q (by decide)⟩) (fun c => ⟨fun q => absurd rfl q, fun _ => hq0 (fun q => c (by rw [tL_int]; exact q))⟩)
  · rw [tL_int] at c
    have c : 1 ≤ x.toInt ∧ x.toInt ≤ 6 := c
    rw [t_le, eN] at c2
    have hq := fun w h1 => hq2 w h1 c c2
    have hq0 := True.intro
    have hq1 := True.intro
    have hq2 := True.intro
    obtain ⟨ex, hx⟩ := n_of (x := x) (by omega)
    have hn1 : 1 ≤ x.toInt.toNat := by omega
    have hn6 : x.toInt.toNat ≤ 6 := by omega
    have hnN : x.toInt.toNat ≤ N := by omega
    generalize x.toInt.toNat = n at ex hx hn1 hn6 hnN hq
    have c := True.intro
    have c2 := True.intro
    subst ex
    unfold w_X6_offRow w_X6_offRow_0 w_X6_offRow_7
    intro X hX
    have key : ∀ (m : Nat) (g : hp) (b : Option Nat) (v f : Int32), m < 2 ^ N → eqE cScr h g → (∀ w, b = some w → w < 256) → (b = none → v = 0 ∧ f = 0) → (∀ w, b = some w → v = nI w ∧ f = 1) → wrF P N AT WH n m b = wrF P N AT WH n (2 ^ N - 1) none → X (v, f, nI (2 ^ N - m), g) := by
      intro m
      induction m with
      | zero =>
        intro g b v f _ xg hb b0 b1 e
        have g0 : gI g (o + 9) 0 = nI N := by rw [eqE_I xg (by unfold cScr; rcases ho with q | q <;> subst q <;> omega)]; exact a.1.1
        apply hX
        unfold w_X6_offRow_b7
        rw [g0, shl1 N (by omega)]
        refine ⟨fun _ => ?_, fun c => absurd (nI_le (by omega) (by omega)) c⟩
        have hf : 2 ^ n - 1 < 2 ^ N := by
          have : 2 ^ n ≤ 2 ^ N := Nat.pow_le_pow_right (by decide) hnN
          have : 0 < 2 ^ n := Nat.pow_pos (by decide)
          omega
        have hf1 : 1 ≤ 2 ^ n - 1 ∨ n = 0 := by
          rcases Nat.eq_zero_or_pos n with q | q
          · exact Or.inr q
          · have : 2 ^ 1 ≤ 2 ^ n := Nat.pow_le_pow_right (by decide) q
            exact Or.inl (by omega)
        cases hbb : b with
        | some w =>
          obtain ⟨v1, _⟩ := b1 w hbb
          show Q v g
          rw [v1]
          refine hq w g ?_ xg
          rw [← e, hbb]; rfl
        | none =>
          exfalso
          rw [hbb] at e
          have e : none = wrF P N AT WH n (2 ^ N - 1) none := e
          rcases hf1 with q | q
          · obtain ⟨w, hw⟩ := wrF_ex (P := P) (AT := AT) (WH := WH) hf (pop_full n (by omega)) (2 ^ N - 1) (by omega) (by omega)
            rw [hw] at e
            exact absurd e (by simp)
          · subst q
            omega
      | succ m ih =>
        intro g b v f hm xg hb b0 b1 e
        have g0 : gI g (o + 9) 0 = nI N := by rw [eqE_I xg (by unfold cScr; rcases ho with q | q <;> subst q <;> omega)]; exact a.1.1
        have ag : cSh (o + 9) g N AT WH := ⟨g0, fun i hi => ⟨by rw [eqE_I xg (by unfold cScr; rcases ho with q | q <;> subst q <;> omega)]; exact (a.1.2 i hi).1, by rw [eqE_I xg (by unfold cScr; rcases ho with q | q <;> subst q <;> omega)]; exact (a.1.2 i hi).2⟩⟩
        have aPg : gI g (o + 9) 1 = nI P := by rw [eqE_I xg (by unfold cScr; rcases ho with q | q <;> subst q <;> omega)]; exact a.2
        have e1 : nI (2 ^ N - (m + 1)) + 1 = nI (2 ^ N - m) := by rw [← nI_succ]; congr 1; omega
        have hp8 := pop_le (2 ^ N - (m + 1)) 8
        rw [wrF_s] at e
        apply hX
        unfold w_X6_offRow_b7
        rw [g0, shl1 N (by omega)]
        refine ⟨fun c => absurd c (nI_ge (by omega) (by omega)), fun _ => c_bitCount (by omega) ⟨fun c u eu => ?_, fun c => ?_⟩⟩
        · have c : ¬ popN (2 ^ N - (m + 1)) 8 = n := fun q => c (congrArg nI q)
          have eu : u = nI (2 ^ N - (m + 1)) + 1 := eu
          rw [e1] at eu
          subst eu
          rw [if_neg c] at e
          exact ih g b v f (by omega) xg hb b0 b1 e
        · have c := (nI_eq (by omega) (by omega)).mp c
          rw [if_pos c] at e
          refine c_isSet g0 n8 (fun _ => ⟨fun q => absurd q (by decide), fun _ => ?_⟩) (fun z => absurd (isS_of n8 (by omega) (by omega) (by omega)) z)
          refine c_findRow ag aPg ok (by omega) (fun h10 x10 r10 => ?_)
          have xc := eqE_trans xg (eqE_w (rScr_c ho) x10)
          refine c_sharesOff (cSh_e x10 ag) (cP_e x10 aPg) ok (by omega) r10 ?_
          have hof := offV_lt (P := P) (set := 2 ^ N - (m + 1)) (AT := AT) (WH := WH) n8
          generalize offV P N AT WH (2 ^ N - (m + 1)) = ov at e hof
          cases hbb : b with
          | none =>
            obtain ⟨v0, f0⟩ := b0 hbb
            rw [hbb] at e
            refine ⟨fun _ u eu => ?_, fun q => absurd f0 q⟩
            have eu : u = nI (2 ^ N - (m + 1)) + 1 := eu
            rw [e1] at eu
            subst eu
            exact ih h10 (some ov) (nI ov) 1 (by omega) xc (fun w hw => by have := Option.some.inj hw; omega) (fun q => absurd q (by simp)) (fun w hw => by rw [← Option.some.inj hw]; exact ⟨rfl, rfl⟩) e
          | some w =>
            obtain ⟨v1, f1⟩ := b1 w hbb
            have hw := hb w hbb
            rw [hbb] at e
            have e : wrF P N AT WH n m (if popN ov 8 < popN w 8 then some ov else some w) = _ := e
            have q1 := pop_le ov 8
            have q2 := pop_le w 8
            refine ⟨fun q => absurd q (by show ¬ f = 0; rw [f1]; decide), fun _ => c_bitCount hof ?_⟩
            show w_J6_bitCount_0f7a4 v _
            rw [v1]
            refine c_bitCount hw ⟨fun c3 u eu => ?_, fun c3 u eu => ?_⟩
            · have c3 := (nI_leI (by omega) (by omega)).mp c3
              have eu : u = nI (2 ^ N - (m + 1)) + 1 := eu
              rw [e1] at eu
              subst eu
              rw [if_neg (by omega)] at e
              have := ih h10 (some w) v f (by omega) xc (fun w' hw' => by have := Option.some.inj hw'; omega) (fun q => absurd q (by simp)) (fun w' hw' => by rw [← Option.some.inj hw']; exact ⟨v1, f1⟩) e
              rw [v1] at this
              exact this
            · have c3 : ¬ popN w 8 ≤ popN ov 8 := fun q => c3 (nI_le q (by omega))
              have eu : u = nI (2 ^ N - (m + 1)) + 1 := eu
              rw [e1] at eu
              subst eu
              rw [if_pos (by omega)] at e
              exact ih h10 (some ov) (nI ov) 1 (by omega) xc (fun w' hw' => by have := Option.some.inj hw'; omega) (fun q => absurd q (by simp)) (fun w' hw' => by rw [← Option.some.inj hw']; exact ⟨rfl, rfl⟩) e
    have := key (2 ^ N - 1) h none 0 0 (by omega) (eqE_refl h) (fun w hw => absurd hw (by simp)) (fun _ => ⟨rfl, rfl⟩) (fun w hw => absurd hw (by simp)) rfl
    rw [show 2 ^ N - (2 ^ N - 1) = 1 from by omega] at this
    exact this
  · rw [tL_int] at c; exact c
  · rw [t_le, eN] at c2; omega
theorem m_wrong {h : hp} {s P N : Nat} {AT WH : Nat → Nat} {x : Int32} {Q : Int32 → Prop} (t : mAt h s) (a : mSh s h N AT WH) (aP : gI h 12 s = nI P) (ok : okSh P N AT WH) (hq0 : ¬ (1 ≤ x.toInt ∧ x.toInt ≤ 6) → Q (-1)) (hq1 : 1 ≤ x.toInt ∧ x.toInt ≤ 6 → (N : Int) < x.toInt → Q (-2)) (hq2 : ∀ w, 1 ≤ x.toInt ∧ x.toInt ≤ 6 → x.toInt ≤ (N : Int) → wrF P N AT WH x.toInt.toNat (2 ^ N - 1) none = some w → Q (nI w)) : w_X12_wrong h x Q := by
  have n8 := ok.1
  have okp := ok.2.1.1
  have hP := okp.2
  have hs2 := t.2
  have h8 := pow_8 n8
  have hpos : 0 < 2 ^ N := Nat.pow_pos (by decide)
  have eN := n_toInt (n := N) (by omega)
  have hin : vp_in (gI h 0 18) 2 := by rw [t.1]; exact in_n hs2 (by omega)
  have e13 : gI h 13 (ix (gI h 0 18)) = nI N := by rw [t.1, ix_n (by omega), a.1]
  unfold w_X12_wrong w_X12_wrong_0
  rw [e13]
  refine m_in (fun c => ⟨fun _ => ⟨hin, fun c2 => ?_, fun c2 => hq1 ?_ ?_⟩, fun q => absurd q (by decide)⟩) (fun c => ⟨fun q => absurd rfl q, fun _ => hq0 (fun q => c (by rw [tL_int]; exact q))⟩)
  · rw [tL_int] at c
    have c : 1 ≤ x.toInt ∧ x.toInt ≤ 6 := c
    rw [t_le, eN] at c2
    have hq := fun w => hq2 w c c2
    have hq0 := True.intro
    have hq1 := True.intro
    have hq2 := True.intro
    obtain ⟨ex, hx⟩ := n_of (x := x) (by omega)
    have hn1 : 1 ≤ x.toInt.toNat := by omega
    have hn6 : x.toInt.toNat ≤ 6 := by omega
    have hnN : x.toInt.toNat ≤ N := by omega
    generalize x.toInt.toNat = n at ex hx hn1 hn6 hnN hq
    have c := True.intro
    have c2 := True.intro
    subst ex
    unfold w_X12_wrong_35
    intro X hX
    have key : ∀ (m : Nat) (b : Option Nat) (v : Int32), m < 2 ^ N → (∀ w, b = some w → w < 256) → (b = none → v = -2) → (∀ w, b = some w → v = nI w) → wrF P N AT WH n m b = wrF P N AT WH n (2 ^ N - 1) none → X (v, nI (2 ^ N - m)) := by
      intro m
      induction m with
      | zero =>
        intro b v _ hb b0 b1 e
        apply hX
        unfold w_X12_wrong_b35
        rw [e13, shl1 N (by omega)]
        refine ⟨hin, fun _ => ?_, fun c => absurd (nI_le (by omega) (by omega)) c⟩
        have hf : 2 ^ n - 1 < 2 ^ N := by
          have : 2 ^ n ≤ 2 ^ N := Nat.pow_le_pow_right (by decide) hnN
          have : 0 < 2 ^ n := Nat.pow_pos (by decide)
          omega
        have hf1 : 1 ≤ 2 ^ n - 1 := by
          have : 2 ^ 1 ≤ 2 ^ n := Nat.pow_le_pow_right (by decide) hn1
          omega
        cases hbb : b with
        | some w =>
          show Q v
          rw [b1 w hbb]
          refine hq w ?_
          rw [← e, hbb]; rfl
        | none =>
          exfalso
          rw [hbb] at e
          have e : none = wrF P N AT WH n (2 ^ N - 1) none := e
          obtain ⟨w, hw⟩ := wrF_ex (P := P) (AT := AT) (WH := WH) hf (pop_full n (by omega)) (2 ^ N - 1) (by omega) (by omega)
          rw [hw] at e
          exact absurd e (by simp)
      | succ m ih =>
        intro b v hm hb b0 b1 e
        have e1 : nI (2 ^ N - (m + 1)) + 1 = nI (2 ^ N - m) := by rw [← nI_succ]; congr 1; omega
        have hp8 := pop_le (2 ^ N - (m + 1)) 8
        rw [wrF_s] at e
        apply hX
        unfold w_X12_wrong_b35
        rw [e13, shl1 N (by omega)]
        refine ⟨hin, fun c => absurd c (nI_ge (by omega) (by omega)), fun _ => m_bits (by omega) ⟨fun c => ?_, fun c u eu => ?_⟩⟩
        · have c := (nI_eq (by omega) (by omega)).mp c
          rw [if_pos c] at e
          have hof := offV_lt (P := P) (set := 2 ^ N - (m + 1)) (AT := AT) (WH := WH) n8
          show w_X12_wrong_67 Q X (nI n) v (nI (2 ^ N - (m + 1))) h 0 0
          unfold w_X12_wrong_67
          intro Y hY
          have key2 : ∀ k i : Nat, k + i = N → Y (nI (bsP (fun i => ¬ secV P N AT WH (2 ^ N - (m + 1)) (AT i) = rsV P (WH i : Int)) i), nI i) := by
            intro k
            induction k with
            | zero =>
              intro i hi
              have ei : i = N := by omega
              rw [ei]
              apply hY
              unfold w_X12_wrong_b67
              rw [e13]
              refine ⟨hin, fun _ => ?_, fun c => absurd (nI_le (Nat.le_refl _) (by omega)) c⟩
              show (v < 0 → ∀ x3_12, x3_12 = nI (2 ^ N - (m + 1)) + 1 → X (nI (offV P N AT WH (2 ^ N - (m + 1))), x3_12)) ∧ (¬ v < 0 → w_X12_bits (nI (offV P N AT WH (2 ^ N - (m + 1)))) (fun r13 => w_X12_bits v (fun r15 => (r15 ≤ r13 → ∀ x3_18, x3_18 = nI (2 ^ N - (m + 1)) + 1 → X (v, x3_18)) ∧ (¬ r15 ≤ r13 → ∀ x3_19, x3_19 = nI (2 ^ N - (m + 1)) + 1 → X (nI (offV P N AT WH (2 ^ N - (m + 1))), x3_19)))))
              generalize offV P N AT WH (2 ^ N - (m + 1)) = ov at e hof
              cases hbb : b with
              | none =>
                have v0 := b0 hbb
                rw [hbb] at e
                refine ⟨fun _ u eu => ?_, fun q => absurd (by rw [v0]; decide) q⟩
                rw [e1] at eu
                subst eu
                exact ih (some ov) (nI ov) (by omega) (fun w hw => by have := Option.some.inj hw; omega) (fun q => absurd q (by simp)) (fun w hw => by rw [← Option.some.inj hw]) e
              | some w =>
                have v1 := b1 w hbb
                have hw := hb w hbb
                rw [hbb] at e
                have e : wrF P N AT WH n m (if popN ov 8 < popN w 8 then some ov else some w) = _ := e
                have q1 := pop_le ov 8
                have q2 := pop_le w 8
                refine ⟨fun q => absurd q (by rw [v1]; exact nI_pos (by omega)), fun _ => m_bits (by omega) ?_⟩
                show w_X12_bits v _
                rw [v1]
                refine m_bits (by omega) ⟨fun c3 u eu => ?_, fun c3 u eu => ?_⟩
                · have c3 := (nI_leI (by omega) (by omega)).mp c3
                  have eu : u = nI (2 ^ N - (m + 1)) + 1 := eu
                  rw [e1] at eu
                  subst eu
                  rw [if_neg (by omega)] at e
                  have := ih (some w) v (by omega) (fun w' hw' => by have := Option.some.inj hw'; omega) (fun q => absurd q (by simp)) (fun w' hw' => by rw [← Option.some.inj hw']; exact v1) e
                  rw [v1] at this
                  exact this
                · have c3 : ¬ popN w 8 ≤ popN ov 8 := fun q => c3 (nI_le q (by omega))
                  have eu : u = nI (2 ^ N - (m + 1)) + 1 := eu
                  rw [e1] at eu
                  subst eu
                  rw [if_pos (by omega)] at e
                  exact ih (some ov) (nI ov) (by omega) (fun w' hw' => by have := Option.some.inj hw'; omega) (fun q => absurd q (by simp)) (fun w' hw' => by rw [← Option.some.inj hw']) e
            | succ k ih2 =>
              intro i hi
              have hi8 : i < N := by omega
              have ai := ok.2.2 i hi8
              have eWi := n_toInt (n := WH i) (by omega)
              have nxt := ih2 (i + 1) (by omega)
              have eb : bsP (fun i => ¬ secV P N AT WH (2 ^ N - (m + 1)) (AT i) = rsV P (WH i : Int)) (i + 1) = bsP (fun i => ¬ secV P N AT WH (2 ^ N - (m + 1)) (AT i) = rsV P (WH i : Int)) i + ifC (¬ secV P N AT WH (2 ^ N - (m + 1)) (AT i) = rsV P (WH i : Int)) (2 ^ i) 0 := rfl
              rw [eb] at nxt
              apply hY
              unfold w_X12_wrong_b67
              rw [e13, t.1, e8s hs2 (by omega), ix_n (n := 8 * s + i) (by omega), (a.2 i hi8).1, (a.2 i hi8).2]
              rw [t.1] at hin
              refine ⟨hin, fun c => absurd c (nI_ge (by omega) (by omega)), fun _ => ⟨in_n (by omega) (by omega), m_rowComes t a aP ok (by omega) (by omega) ⟨in_n (by omega) (by omega), m_restOf t aP okp ?_⟩⟩⟩
              rw [eWi]
              show (secV P N AT WH (2 ^ N - (m + 1)) (AT i) = rsV P (WH i : Int) → _) ∧ (¬ secV P N AT WH (2 ^ N - (m + 1)) (AT i) = rsV P (WH i : Int) → _)
              refine ⟨fun c u eu => ?_, fun c y ey u eu => ?_⟩
              · have eu : u = nI i + 1 := eu
                rw [← nI_succ] at eu
                subst eu
                rw [ifC_neg (fun q => q c), Nat.add_zero] at nxt
                exact nxt
              · have eu : u = nI i + 1 := eu
                have ey : y = nI (bsP (fun i => ¬ secV P N AT WH (2 ^ N - (m + 1)) (AT i) = rsV P (WH i : Int)) i) ||| jshl 1 (nI i) := ey
                rw [or_nI (bsP_lt _ i) (by omega)] at ey
                rw [← nI_succ] at eu
                subst eu ey
                rw [ifC_pos c] at nxt
                exact nxt
          exact key2 N 0 (by omega)
        · have c : ¬ popN (2 ^ N - (m + 1)) 8 = n := fun q => c (congrArg nI q)
          have eu : u = nI (2 ^ N - (m + 1)) + 1 := eu
          rw [e1] at eu
          subst eu
          rw [if_neg c] at e
          exact ih b v (by omega) hb b0 b1 e
    have := key (2 ^ N - 1) none (-2) (by omega) (fun w hw => absurd hw (by simp)) (fun _ => rfl) (fun w hw => absurd hw (by simp)) rfl
    rw [show 2 ^ N - (2 ^ N - 1) = 1 from by omega] at this
    exact this
  · rw [tL_int] at c; exact c
  · rw [t_le, eN] at c2; omega
