/-! figure -/
def fgF (b : Int64) (w : Nat) : Nat → Int32 → Int32 → Int64 → Int32
  | 0, pl, nu, r => if r ≤ 0 then (if w = 6 then pl else nu) else -2
  | n + 1, pl, nu, r => fgF b w n (if r ≤ 0 then pl else nI (6 - n)) (if 5 - n = w then (lrem r b).toInt32 else nu) (r / b)
abbrev isF (v : Int64) (b w : Int32) : Prop := (0 ≤ v.toInt ∧ v.toInt ≤ 1000000000000000000) ∧ (2 ≤ b.toInt ∧ b.toInt ≤ 9999) ∧ 0 ≤ w.toInt ∧ w.toInt ≤ 6
theorem b_ne0 {b : Int32} (hb : 2 ≤ b.toInt) : ¬ b.toInt64 = 0 := by
  rw [tL_eq, tL_int, show (0 : Int64).toInt = 0 from rfl]; omega
theorem c_figure {v : Int64} {b x : Int32} {Q : Int32 → Prop} (hq1 : isF v b x → Q (fgF b.toInt64 x.toInt.toNat 6 1 0 v)) (hq0 : ¬ isF v b x → Q (-1)) : w_X11_figure v b x Q := by
  unfold w_X11_figure w_X11_figure_0
  refine c_within (fun c1 => ⟨fun q => absurd q (by decide), fun _ => ?_⟩) (fun c1 => ⟨fun _ => hq0 (fun q => c1 q.1), fun q => absurd rfl q⟩)
  have c1 : 0 ≤ v.toInt ∧ v.toInt ≤ 1000000000000000000 := c1
  refine c_within (fun c2 => ⟨fun q => absurd q (by decide), fun _ => ?_⟩) (fun c2 => ⟨fun _ => hq0 (fun q => c2 (by rw [tL_int]; exact q.2.1)), fun q => absurd rfl q⟩)
  rw [tL_int] at c2
  have c2 : 2 ≤ b.toInt ∧ b.toInt ≤ 9999 := c2
  refine c_within (fun c3 => ⟨fun _ => ?_, fun q => absurd q (by decide)⟩) (fun c3 => ⟨fun q => absurd rfl q, fun _ => hq0 (fun q => c3 (by rw [tL_int]; exact q.2.2))⟩)
  rw [tL_int] at c3
  have c3 : 0 ≤ x.toInt ∧ x.toInt ≤ 6 := c3
  have hq := hq1 ⟨c1, c2, c3⟩
  obtain ⟨ex, hx⟩ := n_of c3.1
  have hw : x.toInt.toNat ≤ 6 := by omega
  generalize x.toInt.toNat = w at ex hx hw hq
  subst ex
  have hb := b_ne0 c2.1
  unfold w_X11_figure_52
  intro X hX
  have key : ∀ (n : Nat) (pl nu : Int32) (r : Int64), n ≤ 6 → Q (fgF b.toInt64 w n pl nu r) → X (pl, nu, r, nI (6 - n)) := by
    intro n
    induction n with
    | zero =>
      intro pl nu r _ hq
      apply hX
      unfold fgF at hq
      refine ⟨fun _ => ⟨fun c => ?_, fun c => ?_⟩, fun c => absurd (show (6 : Int32) ≤ nI 6 by decide) c⟩
      · have c : r ≤ 0 := c
        rw [if_pos c] at hq
        have e6 : nI w = 6 ↔ w = 6 := nI_eq (a := w) (b := 6) (by omega) (by omega)
        refine ⟨fun c4 => ?_, fun c4 => ?_⟩
        · rw [if_neg (fun q => c4 (e6.mpr q))] at hq; exact hq
        · rw [if_pos (e6.mp c4)] at hq; exact hq
      · have c : ¬ r ≤ 0 := c
        rw [if_neg c] at hq
        exact hq
    | succ n ih =>
      intro pl nu r hn hq
      unfold fgF at hq
      apply hX
      have st : ∀ pl2, Q (fgF b.toInt64 w n pl2 (if 5 - n = w then (lrem r b.toInt64).toInt32 else nu) (r / b.toInt64)) → w_X11_figure_72 Q X b (nI w) pl2 nu r (nI (6 - (n + 1))) := by
        intro pl2 hq
        unfold w_X11_figure_72
        have e : nI (6 - (n + 1)) = nI w ↔ 5 - n = w := by
          rw [show 6 - (n + 1) = 5 - n from by omega]
          exact nI_eq (by omega) (by omega)
        have st2 : ∀ nu2, Q (fgF b.toInt64 w n pl2 nu2 (r / b.toInt64)) → w_X11_figure_87 Q X b (nI w) pl2 nu2 r (nI (6 - (n + 1))) := by
          intro nu2 hq
          refine ⟨hb, fun y ey z ez => ?_⟩
          rw [← nI_succ, show 6 - (n + 1) + 1 = 6 - n from by omega] at ez
          subst ey ez
          exact ih _ _ _ (by omega) hq
        refine ⟨fun c => st2 nu ?_, fun c => ⟨hb, fun y ey => st2 y ?_⟩⟩
        · rw [if_neg (fun q => c (e.mpr q))] at hq; exact hq
        · rw [if_pos (e.mp c)] at hq; subst ey; exact hq
      refine ⟨fun c => absurd c (nI_ge (b := 6) (by omega) (by omega)), fun _ => ⟨fun c => ?_, fun c y ey => ?_⟩⟩
      · have c : r ≤ 0 := c
        rw [if_pos c] at hq
        exact st _ hq
      · have c : ¬ r ≤ 0 := c
        rw [if_neg c] at hq
        have ey : y = nI (6 - (n + 1)) + 1 := ey
        rw [← nI_succ, show 6 - (n + 1) + 1 = 6 - n from by omega] at ey
        subst ey
        exact st _ hq
  exact key 6 1 0 v (Nat.le_refl _) hq
theorem lrem_0 {b : Int64} (hb : 0 < b.toInt) : (lrem 0 b).toInt32 = 0 := by
  have h := (l_rem (x := 0) hb).1 (by decide)
  rw [show (0 : Int64).toInt = 0 from rfl, Int.zero_emod] at h
  have e : lrem 0 b = 0 := tL_eq.mpr h
  rw [e]; rfl
theorem div_0 {b : Int64} (hb : 0 < b.toInt) : (0 : Int64) / b = 0 := by
  have h := (tL_div (x := 0) hb).1 (by decide)
  rw [show (0 : Int64).toInt = 0 from rfl, Int.zero_ediv] at h
  exact tL_eq.mpr h
theorem fgF_0 {b : Int64} {w : Nat} (hb : 0 < b.toInt) : ∀ (n : Nat) (pl nu : Int32), n ≤ 6 → (5 - n < w ∨ n = 0 ∨ w + n < 6 ∨ nu = 0) → (w + n < 6 ∨ w = 6 ∨ n = 0 ∨ nu = 0) → fgF b w n pl nu 0 = if w = 6 then pl else nu
  | 0, pl, nu, _, _, _ => by unfold fgF; rw [if_pos (Int64.le_refl 0)]
  | n + 1, pl, nu, hn, _, h2 => by
    unfold fgF
    rw [if_pos (Int64.le_refl 0), lrem_0 hb, div_0 hb]
    by_cases c : 5 - n = w
    · have h0 : nu = 0 := by
        rcases h2 with q | q | q | q
        · omega
        · omega
        · omega
        · exact q
      rw [if_pos c, fgF_0 hb n pl 0 (by omega) (Or.inr (Or.inr (Or.inr rfl))) (Or.inr (Or.inr (Or.inr rfl))), h0]
    · rw [if_neg c]
      refine fgF_0 hb n pl nu (by omega) ?_ ?_
      · rcases h2 with q | q | q | q
        · exact Or.inr (Or.inr (Or.inl (by omega)))
        · exact Or.inl (by omega)
        · omega
        · exact Or.inr (Or.inr (Or.inr q))
      · rcases h2 with q | q | q | q
        · exact Or.inl (by omega)
        · exact Or.inr (Or.inl q)
        · omega
        · exact Or.inr (Or.inr (Or.inr q))
theorem m_figure {v : Int64} {b x : Int32} {Q : Int32 → Prop} (hq1 : isF v b x → Q (fgF b.toInt64 x.toInt.toNat 6 1 0 v)) (hq0 : ¬ isF v b x → Q (-1)) : w_X12_figure v b x Q := by
  unfold w_X12_figure w_X12_figure_0
  refine m_in (fun c1 => ⟨fun q => absurd q (by decide), fun _ => ?_⟩) (fun c1 => ⟨fun _ => hq0 (fun q => c1 q.1), fun q => absurd rfl q⟩)
  have c1 : 0 ≤ v.toInt ∧ v.toInt ≤ 1000000000000000000 := c1
  refine m_in (fun c2 => ⟨fun q => absurd q (by decide), fun _ => ?_⟩) (fun c2 => ⟨fun _ => hq0 (fun q => c2 (by rw [tL_int]; exact q.2.1)), fun q => absurd rfl q⟩)
  rw [tL_int] at c2
  have c2 : 2 ≤ b.toInt ∧ b.toInt ≤ 9999 := c2
  refine m_in (fun c3 => ⟨fun _ => ?_, fun q => absurd q (by decide)⟩) (fun c3 => ⟨fun q => absurd rfl q, fun _ => hq0 (fun q => c3 (by rw [tL_int]; exact q.2.2))⟩)
  rw [tL_int] at c3
  have c3 : 0 ≤ x.toInt ∧ x.toInt ≤ 6 := c3
  have hq := hq1 ⟨c1, c2, c3⟩
  obtain ⟨ex, hx⟩ := n_of c3.1
  have hw : x.toInt.toNat ≤ 6 := by omega
  generalize x.toInt.toNat = w at ex hx hw hq
  subst ex
  have hb := b_ne0 c2.1
  have hbp : 0 < b.toInt64.toInt := by rw [tL_int]; omega
  have z0 : (0 : Int64).toInt = 0 := rfl
  have e6 : nI w = 6 ↔ w = 6 := nI_eq (a := w) (b := 6) (by omega) (by omega)
  unfold w_X12_figure_49
  intro X hX
  -- with n places left; what the other side calls places is pl
  have key : ∀ (n : Nat) (pl nu : Int32) (r : Int64), n ≤ 6 → 0 ≤ r.toInt → (n = 6 ∧ pl = 1 ∨ n < 6 ∧ pl = nI (6 - n)) → (n = 0 → r = 0) → (w + n < 6 ∨ w = 6 ∨ nu = 0) → Q (fgF b.toInt64 w n pl nu r) → X (nI (6 - n), nu, r) := by
    intro n
    induction n with
    | zero =>
      intro pl nu r _ _ hpl hr0 hnu hq
      have er := hr0 rfl
      subst er
      unfold fgF at hq
      rw [if_pos (Int64.le_refl 0)] at hq
      rcases hpl with q | q
      · omega
      have epl := q.2
      apply hX
      refine ⟨fun c => absurd (show nI (6 - 0) = 0 from c) (by decide), fun _ => ⟨fun _ => ⟨fun c4 => ?_, fun c4 => ?_⟩, fun c => absurd (Int64.le_refl 0) c⟩⟩
      · rw [if_neg (fun q => c4 (e6.mpr q))] at hq; exact hq
      · rw [if_pos (e6.mp c4)] at hq; rw [epl] at hq; exact hq
    | succ n ih =>
      intro pl nu r hn hr hpl _ hnu hq
      have go : (n = 5 ∨ ¬ r ≤ 0) → w_X12_figure_61 Q X b (nI w) (nI (6 - (n + 1))) nu r := by
        intro hgo
        have hr2 : 0 ≤ (r / b.toInt64).toInt := by
          rw [(tL_div hbp).1 hr]
          exact Int.ediv_nonneg hr (by omega)
        have epl : (if r ≤ 0 then pl else nI (6 - n)) = nI (6 - n) := by
          by_cases c : r ≤ 0
          · rw [if_pos c]
            rcases hgo with q | q
            · rcases hpl with q2 | q2
              · rw [q2.2, q]; rfl
              · omega
            · exact absurd c q
          · rw [if_neg c]
        unfold fgF at hq
        rw [epl] at hq
        have st2 : ∀ nu2, (w + n < 6 ∨ w = 6 ∨ nu2 = 0) → Q (fgF b.toInt64 w n (nI (6 - n)) nu2 (r / b.toInt64)) → w_X12_figure_76 Q X b (nI w) (nI (6 - (n + 1))) nu2 r := by
          intro nu2 hn2 hq
          refine ⟨hb, fun y ey z ez => ?_⟩
          rw [← nI_succ, show 6 - (n + 1) + 1 = 6 - n from by omega] at ez
          subst ey ez
          have e66 : nI (6 - n) = 6 ↔ n = 0 := by
            have := nI_eq (a := 6 - n) (b := 6) (by omega) (by omega)
            exact ⟨fun q => by have := this.mp q; omega, fun q => this.mpr (by omega)⟩
          refine ⟨fun c => ih _ _ _ (by omega) hr2 (Or.inr ⟨by omega, rfl⟩) (fun q => absurd (e66.mpr q) c) hn2 hq, fun c => ⟨fun c5 => ?_, fun c5 => ?_⟩⟩
          · refine ih _ _ _ (by omega) hr2 (Or.inr ⟨by omega, rfl⟩) (fun _ => ?_) hn2 hq
            rw [tL_le, z0] at c5
            exact tL_eq.mpr (by rw [z0]; omega)
          · have en := e66.mp c
            subst en
            unfold fgF at hq
            rw [if_neg c5] at hq
            exact hq
        unfold w_X12_figure_61
        have e : nI (6 - (n + 1)) = nI w ↔ 5 - n = w := by
          rw [show 6 - (n + 1) = 5 - n from by omega]
          exact nI_eq (by omega) (by omega)
        refine ⟨fun c => st2 nu ?_ ?_, fun c => ⟨hb, fun y ey => st2 y ?_ ?_⟩⟩
        · rcases hnu with q | q | q
          · exact Or.inl (by omega)
          · exact Or.inr (Or.inl q)
          · exact Or.inr (Or.inr q)
        · rw [if_neg (fun q => c (e.mpr q))] at hq; exact hq
        · exact Or.inl (by have := e.mp c; omega)
        · rw [if_pos (e.mp c)] at hq; subst ey; exact hq
      apply hX
      refine ⟨fun c => go (Or.inl ?_), fun c => ⟨fun c2 => ?_, fun c2 => go (Or.inr c2)⟩⟩
      · have c : nI (6 - (n + 1)) = 0 := c
        have := (nI_eq (a := 6 - (n + 1)) (b := 0) (by omega) (by omega)).mp c
        omega
      · have c : ¬ nI (6 - (n + 1)) = 0 := c
        have c2 : r ≤ 0 := c2
        have er : r = 0 := by
          rw [tL_le, z0] at c2
          exact tL_eq.mpr (by rw [z0]; omega)
        subst er
        have hn5 : ¬ n = 5 := fun q => c (by rw [q]; rfl)
        have epl : pl = nI (6 - (n + 1)) := by
          rcases hpl with q | q
          · omega
          · exact q.2
        rw [fgF_0 hbp (n + 1) pl nu hn (by
            rcases hnu with q | q | q
            · exact Or.inr (Or.inr (Or.inl (by omega)))
            · exact Or.inl (by omega)
            · exact Or.inr (Or.inr (Or.inr q))) (by
            rcases hnu with q | q | q
            · exact Or.inl (by omega)
            · exact Or.inr (Or.inl q)
            · exact Or.inr (Or.inr (Or.inr q)))] at hq
        refine ⟨fun c4 => ?_, fun c4 => ?_⟩
        · rw [if_neg (fun q => c4 (e6.mpr q))] at hq; exact hq
        · rw [if_pos (e6.mp c4), epl] at hq; exact hq
  exact key 6 1 0 v (Nat.le_refl _) c1.1 (Or.inl ⟨rfl, rfl⟩) (fun q => by omega) (Or.inr (Or.inr rfl)) hq
/-! shifts -/
theorem sh_amt : ∀ k, k < 31 → ((nI k &&& 31).toBitVec.smod 32#32).toNat = k := by decide
theorem shl1 : ∀ k, k < 31 → jshl 1 (nI k) = nI (2 ^ k) := by decide
theorem nI_bv {a : Nat} (ha : a < 2147483648) : (nI a).toBitVec.toNat = a := by
  show (BitVec.ofNat 32 a).toNat = a
  rw [BitVec.toNat_ofNat]
  omega
theorem jshr_n {a k : Nat} (ha : a < 2147483648) (hk : k < 31) : jshr (nI a) (nI k) = nI (a / 2 ^ k) := by
  have hle : a / 2 ^ k ≤ a := Nat.div_le_self _ _
  refine t_eq.mpr ?_
  rw [n_toInt (n := a / 2 ^ k) (by omega)]
  have e1 : (jshr (nI a) (nI k)).toBitVec = (nI a).toBitVec.sshiftRight k := by
    show (nI a).toBitVec.sshiftRight ((nI k &&& 31).toBitVec.smod 32#32).toNat = _
    rw [sh_amt k hk]
  show (jshr (nI a) (nI k)).toBitVec.toInt = _
  rw [e1, BitVec.toInt_sshiftRight]
  show (nI a).toInt >>> k = _
  rw [n_toInt ha, Int.shiftRight_eq_div_pow]
  rfl
theorem and1_n {a : Nat} (ha : a < 2147483648) : nI a &&& 1 = nI (a % 2) := by
  apply Int32.toBitVec_inj.mp
  apply BitVec.eq_of_toNat_eq
  rw [Int32.toBitVec_and, BitVec.toNat_and, nI_bv ha, nI_bv (by omega)]
  show a &&& 1 = a % 2
  exact Nat.and_one_is_mod a
theorem bit_n {a k : Nat} (ha : a < 2147483648) (hk : k < 31) : jshr (nI a) (nI k) &&& 1 = nI (a / 2 ^ k % 2) := by
  have hle : a / 2 ^ k ≤ a := Nat.div_le_self _ _
  rw [jshr_n ha hk, and1_n (by omega)]
/-! counts and firsts -/
def cntF (p : Nat → Prop) [DecidablePred p] (M : Nat) : Nat → Nat → Nat
  | 0, acc => acc
  | n + 1, acc => cntF p M n (if p (M - (n + 1)) then acc + 1 else acc)
def fstF (p : Nat → Prop) [DecidablePred p] (M : Nat) (d : Int32) : Nat → Int32
  | 0 => d
  | n + 1 => if p (M - (n + 1)) then nI (M - (n + 1)) else fstF p M d n
/-! bags -/
def bagS (C : Nat → Nat) : Nat → Nat → Nat
  | 0, _ => 0
  | k + 1, set => bagS C k set + (if set / 2 ^ k % 2 = 1 then C k else 0)
def okBags (K : Nat) (C : Nat → Nat) : Prop := K ≤ 9 ∧ ∀ k, k < K → C k ≤ 999
def cBags (o : Nat) (h : hp) (K : Nat) (C : Nat → Nat) : Prop := gI h (o + 15) 0 = nI K ∧ ∀ set, set < 2 ^ K → gI h (o + 16) set = nI (bagS C K set)
def mBags (s : Nat) (h : hp) (K : Nat) (C : Nat → Nat) : Prop := gI h 17 s = nI K ∧ ∀ k, k < K → gI h 18 (9 * s + k) = nI (C k)
theorem bagS_le {C : Nat → Nat} (set : Nat) : ∀ K : Nat, (∀ k, k < K → C k ≤ 999) → bagS C K set ≤ 999 * K
  | 0, _ => Nat.le_refl 0
  | K + 1, h => by
    have h1 := bagS_le set K (fun k hk => h k (by omega))
    have h2 := h K (by omega)
    unfold bagS
    split <;> omega
theorem pow_9 {K : Nat} (h : K ≤ 9) : 2 ^ K ≤ 512 := Nat.pow_le_pow_right (n := 2) (by omega) h
theorem m_sumOf {h : hp} {s K set : Nat} {C : Nat → Nat} {Q : Int32 → Prop} (t : mAt h s) (a : mBags s h K C) (ok : okBags K C) (hs : set < 512) (hq : Q (nI (bagS C K set))) : w_X12_sumOf h (nI set) Q := by
  have hs2 := t.2
  have hK := ok.1
  unfold w_X12_sumOf w_X12_sumOf_0 w_X12_sumOf_4
  intro X hX
  have key : ∀ n k : Nat, n + k = K → X (nI (bagS C k set), nI k) := by
    intro n
    induction n with
    | zero =>
      intro k hk
      have ek : k = K := by omega
      subst ek
      apply hX
      refine ⟨by rw [t.1]; exact in_n hs2 (by omega), fun _ => hq, fun c => absurd ?_ c⟩
      rw [t.1, ix_n (by omega), a.1]
      exact nI_le (Nat.le_refl _) (by omega)
    | succ n ih =>
      intro k hk
      apply hX
      have e9 : 9 * nI s + nI k = nI (9 * s + k) := by
        rw [show (9 : Int32) = nI 9 from rfl, nI_mul (by omega) (by omega) (by omega), nI_add]
      have nxt := ih (k + 1) (by omega)
      refine ⟨by rw [t.1]; exact in_n hs2 (by omega), fun c => absurd c ?_, fun _ => ⟨fun c y ey => ?_, fun c => ⟨?_, fun y ey z ez => ?_⟩⟩⟩
      · rw [t.1, ix_n (by omega), a.1]
        exact nI_ge (by omega) (by omega)
      · have c : ¬ jshr (nI set) (nI k) &&& 1 = 1 := c
        rw [bit_n (by omega) (by omega)] at c
        have ey : y = nI k + 1 := ey
        rw [← nI_succ] at ey
        subst ey
        have e : bagS C (k + 1) set = bagS C k set := by
          show bagS C k set + (if set / 2 ^ k % 2 = 1 then C k else 0) = _
          rw [if_neg (fun q => c (by rw [q]; rfl))]
          rfl
        rw [e] at nxt
        exact nxt
      · show vp_in (9 * gI h 0 18 + nI k) 18
        rw [t.1, e9]
        exact in_n (by omega) (by omega)
      · have c : jshr (nI set) (nI k) &&& 1 = 1 := c
        rw [bit_n (by omega) (by omega)] at c
        have c1 := (nI_eq (a := set / 2 ^ k % 2) (b := 1) (by omega) (by omega)).mp c
        have ey : y = nI (bagS C k set) + gI h 18 (ix (9 * gI h 0 18 + nI k)) := ey
        have ez : z = nI k + 1 := ez
        rw [t.1, e9, ix_n (by omega), a.2 k (by omega), nI_add] at ey
        rw [← nI_succ] at ez
        subst ey ez
        have e : bagS C (k + 1) set = bagS C k set + C k := by
          show bagS C k set + _ = _
          rw [if_pos c1]
        rw [e] at nxt
        exact nxt
  exact key K 0 (by omega)
abbrev isWg (x y : Int32) : Prop := (0 ≤ x.toInt ∧ x.toInt ≤ 999999) ∧ 1 ≤ y.toInt ∧ y.toInt ≤ 99
theorem c_isWeighing {x y : Int32} {Q : Int32 → Prop} (hq1 : isWg x y → Q 1) (hq0 : ¬ isWg x y → Q 0) : w_X11_isWeighing x y Q := by
  unfold w_X11_isWeighing w_X11_isWeighing_0
  refine c_within (fun c1 => ⟨fun q => absurd q (by decide), fun _ => ?_⟩) (fun c1 => ⟨fun _ => hq0 (fun q => c1 (by rw [tL_int]; exact q.1)), fun q => absurd rfl q⟩)
  rw [tL_int] at c1
  refine c_within (fun c2 => ⟨fun q => absurd q (by decide), fun _ => ?_⟩) (fun c2 => ⟨fun _ => hq0 (fun q => c2 (by rw [tL_int]; exact q.2)), fun q => absurd rfl q⟩)
  rw [tL_int] at c2
  exact hq1 ⟨c1, c2⟩
abbrev offP (K : Nat) (C : Nat → Nat) (x y : Int32) (set : Nat) : Prop := nI (bagS C K set) * y = x
theorem c_bad {h : hp} {o K : Nat} {C : Nat → Nat} {x y : Int32} {Q : Int32 → Prop} (t : cAt h o) (a : cBags o h K C) (ok : okBags K C) (hq1 : isWg x y → Q (nI (cntF (offP K C x y) (2 ^ K) (2 ^ K) 0))) (hq0 : ¬ isWg x y → Q (-1)) : w_X11_bad h x y Q := by
  unfold w_X11_bad w_X11_bad_0
  refine c_isWeighing (fun z => ⟨fun c => absurd c (by decide), fun _ => ⟨by rw [t.1]; exact t.2, ?_⟩⟩) (fun z => ⟨fun _ => hq0 z, fun c => absurd rfl c⟩)
  have hq := hq1 z
  have hM := pow_9 ok.1
  rw [t.1]
  unfold w_X0_setsOff w_X0_setsOff_0 w_X0_setsOff_5
  intro X hX
  have key : ∀ n acc : Nat, n ≤ 2 ^ K → Q (nI (cntF (offP K C x y) (2 ^ K) n acc)) → X (nI acc, nI (2 ^ K - n)) := by
    intro n
    induction n with
    | zero =>
      intro acc _ hq
      apply hX
      unfold w_X0_setsOff_b5 w_X0_sets w_X0_sets_0
      rw [a.1, shl1 K (by have := ok.1; omega)]
      exact ⟨fun _ => hq, fun c => absurd (nI_le (Nat.le_refl _) (by omega)) c⟩
    | succ n ih =>
      intro acc hn hq
      apply hX
      unfold w_X0_setsOff_b5 w_X0_sets w_X0_sets_0
      unfold cntF at hq
      show (jshl 1 (gI h (o + 15) 0) ≤ nI (2 ^ K - (n + 1)) → _) ∧ (¬ jshl 1 (gI h (o + 15) 0) ≤ nI (2 ^ K - (n + 1)) → vp_in (nI (2 ^ K - (n + 1))) 512 ∧ (¬ gI h (o + 16) (ix (nI (2 ^ K - (n + 1)))) * y = x → _) ∧ (gI h (o + 16) (ix (nI (2 ^ K - (n + 1)))) * y = x → _))
      rw [a.1, shl1 K (by have := ok.1; omega), ix_n (by omega), a.2 (2 ^ K - (n + 1)) (by omega)]
      refine ⟨fun c => absurd c (nI_ge (by omega) (by omega)), fun _ => ⟨in_n (by omega) (by omega), fun c u eu => ?_, fun c v ev u eu => ?_⟩⟩
      · have eu : u = nI (2 ^ K - (n + 1)) + 1 := eu
        rw [← nI_succ, show 2 ^ K - (n + 1) + 1 = 2 ^ K - n from by omega] at eu
        rw [if_neg c] at hq
        subst eu
        exact ih acc (by omega) hq
      · have eu : u = nI (2 ^ K - (n + 1)) + 1 := eu
        have ev : v = nI acc + 1 := ev
        rw [← nI_succ, show 2 ^ K - (n + 1) + 1 = 2 ^ K - n from by omega] at eu
        rw [← nI_succ] at ev
        rw [if_pos c] at hq
        subst eu ev
        exact ih (acc + 1) (by omega) hq
  have := key (2 ^ K) 0 (Nat.le_refl _) hq
  rw [Nat.sub_self] at this
  exact this
theorem m_bad {h : hp} {s K : Nat} {C : Nat → Nat} {x y : Int32} {Q : Int32 → Prop} (t : mAt h s) (a : mBags s h K C) (ok : okBags K C) (hq1 : isWg x y → Q (nI (cntF (offP K C x y) (2 ^ K) (2 ^ K) 0))) (hq0 : ¬ isWg x y → Q (-1)) : w_X12_bad h x y Q := by
  unfold w_X12_bad w_X12_bad_0
  refine m_in (fun c1 => ⟨fun q => absurd q (by decide), fun _ => ?_⟩) (fun c1 => ⟨fun _ => hq0 (fun q => c1 (by rw [tL_int]; exact q.1)), fun q => absurd rfl q⟩)
  rw [tL_int] at c1
  refine m_in (fun c2 => ⟨fun _ => ?_, fun q => absurd q (by decide)⟩) (fun c2 => ⟨fun q => absurd rfl q, fun _ => hq0 (fun q => c2 (by rw [tL_int]; exact q.2))⟩)
  rw [tL_int] at c2
  have hq := hq1 ⟨c1, c2⟩
  have hM := pow_9 ok.1
  have hs := t.2
  have eM : jshl 1 (gI h 17 (ix (gI h 0 18))) = nI (2 ^ K) := by rw [t.1, ix_n (by omega), a.1, shl1 K (by have := ok.1; omega)]
  unfold w_X12_bad_31
  intro X hX
  have key : ∀ n acc : Nat, n ≤ 2 ^ K → Q (nI (cntF (offP K C x y) (2 ^ K) n acc)) → X (nI acc, nI (2 ^ K - n)) := by
    intro n
    induction n with
    | zero =>
      intro acc _ hq
      apply hX
      unfold w_X12_bad_b31
      rw [eM]
      exact ⟨by rw [t.1]; exact in_n hs (by omega), fun _ => hq, fun c => absurd (nI_le (Nat.le_refl _) (by omega)) c⟩
    | succ n ih =>
      intro acc hn hq
      apply hX
      unfold cntF at hq
      unfold w_X12_bad_b31
      rw [eM]
      refine ⟨by rw [t.1]; exact in_n hs (by omega), fun c => absurd c (nI_ge (by omega) (by omega)), fun _ => m_sumOf (set := 2 ^ K - (n + 1)) t a ok (by omega) ⟨fun c u eu => ?_, fun c v ev u eu => ?_⟩⟩
      · have eu : u = nI (2 ^ K - (n + 1)) + 1 := eu
        rw [← nI_succ, show 2 ^ K - (n + 1) + 1 = 2 ^ K - n from by omega] at eu
        rw [if_neg c] at hq
        subst eu
        exact ih acc (by omega) hq
      · have eu : u = nI (2 ^ K - (n + 1)) + 1 := eu
        have ev : v = nI acc + 1 := ev
        rw [← nI_succ, show 2 ^ K - (n + 1) + 1 = 2 ^ K - n from by omega] at eu
        rw [← nI_succ] at ev
        rw [if_pos c] at hq
        subst eu ev
        exact ih (acc + 1) (by omega) hq
  have := key (2 ^ K) 0 (Nat.le_refl _) hq
  rw [Nat.sub_self] at this
  exact this
theorem c_badSet {h : hp} {o K : Nat} {C : Nat → Nat} {x y : Int32} {Q : Int32 → Prop} (t : cAt h o) (a : cBags o h K C) (ok : okBags K C) (hq1 : isWg x y → Q (fstF (offP K C x y) (2 ^ K) (-2) (2 ^ K))) (hq0 : ¬ isWg x y → Q (-1)) : w_X11_badSet h x y Q := by
  unfold w_X11_badSet w_X11_badSet_0
  refine c_isWeighing (fun z => ⟨fun c => absurd c (by decide), fun _ => ⟨by rw [t.1]; exact t.2, ?_⟩⟩) (fun z => ⟨fun _ => hq0 z, fun c => absurd rfl c⟩)
  have hq := hq1 z
  have hM := pow_9 ok.1
  rw [t.1]
  unfold w_X0_leastSetOff w_X0_leastSetOff_0 w_X0_leastSetOff_2
  intro X hX
  have key : ∀ n : Nat, n ≤ 2 ^ K → Q (fstF (offP K C x y) (2 ^ K) (-2) n) → X (nI (2 ^ K - n)) := by
    intro n
    induction n with
    | zero =>
      intro _ hq
      apply hX
      unfold w_X0_leastSetOff_b2 w_X0_sets w_X0_sets_0
      rw [a.1, shl1 K (by have := ok.1; omega)]
      exact ⟨fun _ => hq, fun c => absurd (nI_le (Nat.le_refl _) (by omega)) c⟩
    | succ n ih =>
      intro hn hq
      apply hX
      unfold w_X0_leastSetOff_b2 w_X0_sets w_X0_sets_0
      unfold fstF at hq
      rw [a.1, shl1 K (by have := ok.1; omega), ix_n (by omega), show o + 15 + 1 = o + 16 from rfl, a.2 (2 ^ K - (n + 1)) (by omega)]
      refine ⟨fun c => absurd c (nI_ge (by omega) (by omega)), fun _ => ⟨in_n (by omega) (by omega), fun c u eu => ?_, fun c => ?_⟩⟩
      · rw [← nI_succ, show 2 ^ K - (n + 1) + 1 = 2 ^ K - n from by omega] at eu
        rw [if_neg c] at hq
        subst eu
        exact ih (by omega) hq
      · rw [if_pos c] at hq
        exact hq
  have := key (2 ^ K) (Nat.le_refl _) hq
  rw [Nat.sub_self] at this
  exact this
theorem m_badSet {h : hp} {s K : Nat} {C : Nat → Nat} {x y : Int32} {Q : Int32 → Prop} (t : mAt h s) (a : mBags s h K C) (ok : okBags K C) (hq1 : isWg x y → Q (fstF (offP K C x y) (2 ^ K) (-2) (2 ^ K))) (hq0 : ¬ isWg x y → Q (-1)) : w_X12_badSet h x y Q := by
  unfold w_X12_badSet w_X12_badSet_0
  refine m_in (fun c1 => ⟨fun q => absurd q (by decide), fun _ => ?_⟩) (fun c1 => ⟨fun _ => hq0 (fun q => c1 (by rw [tL_int]; exact q.1)), fun q => absurd rfl q⟩)
  rw [tL_int] at c1
  refine m_in (fun c2 => ⟨fun _ => ?_, fun q => absurd q (by decide)⟩) (fun c2 => ⟨fun q => absurd rfl q, fun _ => hq0 (fun q => c2 (by rw [tL_int]; exact q.2))⟩)
  rw [tL_int] at c2
  have hq := hq1 ⟨c1, c2⟩
  have hM := pow_9 ok.1
  have hs := t.2
  have eM : jshl 1 (gI h 17 (ix (gI h 0 18))) = nI (2 ^ K) := by rw [t.1, ix_n (by omega), a.1, shl1 K (by have := ok.1; omega)]
  unfold w_X12_badSet_28
  intro X hX
  have key : ∀ n : Nat, n ≤ 2 ^ K → Q (fstF (offP K C x y) (2 ^ K) (-2) n) → X (nI (2 ^ K - n)) := by
    intro n
    induction n with
    | zero =>
      intro _ hq
      apply hX
      unfold w_X12_badSet_b28
      rw [eM]
      exact ⟨by rw [t.1]; exact in_n hs (by omega), fun _ => hq, fun c => absurd (nI_le (Nat.le_refl _) (by omega)) c⟩
    | succ n ih =>
      intro hn hq
      apply hX
      unfold fstF at hq
      unfold w_X12_badSet_b28
      rw [eM]
      refine ⟨by rw [t.1]; exact in_n hs (by omega), fun c => absurd c (nI_ge (by omega) (by omega)), fun _ => m_sumOf (set := 2 ^ K - (n + 1)) t a ok (by omega) ⟨fun c u eu => ?_, fun c => ?_⟩⟩
      · rw [← nI_succ, show 2 ^ K - (n + 1) + 1 = 2 ^ K - n from by omega] at eu
        rw [if_neg c] at hq
        subst eu
        exact ih (by omega) hq
      · rw [if_pos c] at hq
        exact hq
  have := key (2 ^ K) (Nat.le_refl _) hq
  rw [Nat.sub_self] at this
  exact this
/-! heaps that are the same but for scratch -/
def eqE (P : Nat → Nat → Prop) (h h1 : hp) : Prop := (∀ a j, ¬ P a j → gI h1 a j = gI h a j ∧ gL h1 a j = gL h a j) ∧ ∀ i, gR h1 i = gR h i
theorem eqE_refl {P : Nat → Nat → Prop} (h : hp) : eqE P h h := ⟨fun _ _ _ => ⟨rfl, rfl⟩, fun _ => rfl⟩
theorem eqE_trans {P : Nat → Nat → Prop} {h h1 h2 : hp} (a : eqE P h h1) (b : eqE P h1 h2) : eqE P h h2 :=
  ⟨fun c j n => ⟨by rw [(b.1 c j n).1, (a.1 c j n).1], by rw [(b.1 c j n).2, (a.1 c j n).2]⟩, fun i => by rw [b.2, a.2]⟩
theorem eqE_sI {P : Nat → Nat → Prop} {h h1 : hp} {c k : Nat} {v : Int32} (a : eqE P h h1) (hc : P c k) : eqE P h (sI h1 c k v) :=
  ⟨fun d j n => ⟨by rw [gI_sI, if_neg (fun z => n (by rw [z.1, z.2]; exact hc))]; exact (a.1 d j n).1, (a.1 d j n).2⟩, a.2⟩
theorem eqE_sL {P : Nat → Nat → Prop} {h h1 : hp} {c k : Nat} {v : Int64} (a : eqE P h h1) (hc : P c k) : eqE P h (sL h1 c k v) :=
  ⟨fun d j n => ⟨(a.1 d j n).1, by rw [gL_sL, if_neg (fun z => n (by rw [z.1, z.2]; exact hc))]; exact (a.1 d j n).2⟩, a.2⟩
/-- the class's scratch -/
def cScr (a _j : Nat) : Prop := a = 65 ∨ (67 ≤ a ∧ a ≤ 93) ∨ a = 22 ∨ a = 23 ∨ a = 28 ∨ a = 29 ∨ a = 32 ∨ a = 40 ∨ a = 41 ∨ a = 46 ∨ a = 47 ∨ a = 50
def isO (o : Nat) : Prop := o = 15 ∨ o = 33
/-! a cell that is filled -/
def fillI (a : Nat) (v : Int32) (h : hp) : Nat → hp
  | 0 => h
  | k + 1 => sI (fillI a v h k) a k v
theorem fillI_I (a : Nat) (v : Int32) (h : hp) : ∀ (n x j : Nat), gI (fillI a v h n) x j = if x = a ∧ j < n then v else gI h x j
  | 0, x, j => by rw [if_neg (by omega)]; rfl
  | n + 1, x, j => by
    show gI (sI (fillI a v h n) a n v) x j = _
    rw [gI_sI, fillI_I a v h n]
    by_cases e : x = a ∧ j = n
    · rw [if_pos e, if_pos ⟨e.1, by omega⟩]
    · rw [if_neg e]
      by_cases e2 : x = a ∧ j < n
      · rw [if_pos e2, if_pos ⟨e2.1, by omega⟩]
      · rw [if_neg e2, if_neg (fun q => e2 ⟨q.1, by have : ¬ j = n := fun z => e ⟨q.1, z⟩; omega⟩)]
theorem fillI_L (a : Nat) (v : Int32) (h : hp) : ∀ (n x j : Nat), gL (fillI a v h n) x j = gL h x j
  | 0, _, _ => rfl
  | n + 1, x, j => fillI_L a v h n x j
theorem fillI_R (a : Nat) (v : Int32) (h : hp) : ∀ (n i : Nat), gR (fillI a v h n) i = gR h i
  | 0, _ => rfl
  | n + 1, i => fillI_R a v h n i
theorem eqE_fill {P : Nat → Nat → Prop} {h h1 : hp} {a n : Nat} {v : Int32} (e : eqE P h h1) (hP : ∀ j, j < n → P a j) : eqE P h (fillI a v h1 n) := by
  refine ⟨fun x j nP => ⟨?_, ?_⟩, fun i => ?_⟩
  · rw [fillI_I, if_neg (fun q => nP (by rw [q.1]; exact hP j q.2))]; exact (e.1 x j nP).1
  · rw [fillI_L]; exact (e.1 x j nP).2
  · rw [fillI_R]; exact e.2 i
theorem c_fillB {a n : Nat} {h : hp} {x : Int32} {Q : hp → Prop} (hn : n < 2147483648) (hq : Q (fillI a (jb x) h n)) : w_J7_fill_031fb a n h x Q := by
  unfold w_J7_fill_031fb w_J7_fill_031fb_0
  intro y ey
  subst ey
  unfold w_J7_fill_031fb_5
  intro X hX
  have key : ∀ m k : Nat, m + k = n → X (nI k, fillI a (jb x) h k) := by
    intro m
    induction m with
    | zero =>
      intro k hk
      have ek : k = n := by omega
      subst ek
      apply hX
      exact ⟨fun _ => hq, fun c => absurd (nI_le (Nat.le_refl _) (by omega)) c⟩
    | succ m ih =>
      intro k hk
      apply hX
      refine ⟨fun c => absurd c (nI_ge (by omega) (by omega)), fun _ => ⟨in_n (by omega) (by omega), fun h3 e3 y ey => ?_⟩⟩
      have e3 : h3 = sI (fillI a (jb x) h k) a (ix (nI k)) (jb x) := e3
      have ey : y = nI k + 1 := ey
      rw [ix_n (by omega)] at e3
      rw [← nI_succ] at ey
      rw [e3, ey]
      exact ih (k + 1) (by omega)
  exact key n 0 (by omega)
/-! gaps -/
def dst (a b : Nat) : Nat := (a - b) + (b - a)
def gapP (f : Nat → Nat) (M g : Nat) : Prop := ∃ i j, j < i ∧ i < M ∧ dst (f i) (f j) = g
def isMin (P : Nat → Prop) (g : Nat) : Prop := P g ∧ ∀ g', P g' → g ≤ g'
theorem isMin_one {P : Nat → Prop} {a b : Nat} (ha : isMin P a) (hb : isMin P b) : a = b := by
  have := ha.2 b hb.1
  have := hb.2 a ha.1
  omega
theorem isMin_ex {P : Nat → Prop} : ∀ n : Nat, (∃ g, P g ∧ g ≤ n) → ∃ g, isMin P g := by
  intro n
  induction n with
  | zero =>
    rintro ⟨g, hg, h0⟩
    exact ⟨g, hg, fun g' _ => by omega⟩
  | succ n ih =>
    rintro ⟨g, hg, h0⟩
    rcases Classical.em (∃ g, P g ∧ g ≤ n) with q | q
    · exact ih q
    · refine ⟨g, hg, fun g' hg' => ?_⟩
      rcases Nat.lt_or_ge n g' with q2 | q2
      · omega
      · exact absurd ⟨g', hg', q2⟩ q
/-- marks of the numbers in P -/
def mrk (a : Nat) (h : hp) (P : Nat → Prop) : Prop := ∀ j, j < 8992 → (¬ gI h a j = 0 ↔ P j)
theorem c_between {o : Nat} {h : hp} {P : Nat → Prop} {Q : Int32 → Prop} (hm : mrk (o + 2) h P) (h0 : P 0) (hP : ∀ j, P j → j < 8992) (hq : ∀ g, (isMin (fun g => ∃ a b, b < a ∧ P a ∧ P b ∧ a - b = g) g ∨ (g = 8992 ∧ ∀ a b, b < a → P a → P b → False)) → Q (nI g)) : w_X0_leastBetweenMarks o h Q := by
  unfold w_X0_leastBetweenMarks w_X0_leastBetweenMarks_0 w_X0_leastBetweenMarks_10
  intro X hX
  have key : ∀ (n g l : Nat), n ≤ 8991 → (isMin (fun g => ∃ a b, b < a ∧ a < 8992 - n ∧ P a ∧ P b ∧ a - b = g) g ∨ (g = 8992 ∧ ∀ a b, b < a → a < 8992 - n → P a → P b → False)) → g ≤ 8992 → P l → l < 8992 - n → (∀ a, a < 8992 - n → P a → a ≤ l) → X (nI g, nI l, nI (8992 - n)) := by
    intro n
    induction n with
    | zero =>
      intro g l _ hg _ _ _ _
      apply hX
      refine ⟨fun _ => hq g ?_, fun c => absurd (show (8992 : Int32) ≤ nI 8992 by decide) c⟩
      rcases hg with q | q
      · obtain ⟨⟨a, b, u⟩, v⟩ := q
        exact Or.inl ⟨⟨a, b, u.1, u.2.2⟩, fun g' ⟨a', b', u'⟩ => v g' ⟨a', b', u'.1, hP a' u'.2.1, u'.2⟩⟩
      · exact Or.inr ⟨q.1, fun a b u v w => q.2 a b u (hP a v) v w⟩
    | succ n ih =>
      intro g l hn hg hg9 hl hl2 hl3
      apply hX
      refine ⟨fun c => absurd c (nI_ge (b := 8992) (by omega) (by omega)), fun _ => ⟨in_n (by omega) (by omega), fun c y ey => ?_, fun c y ey z ez => ?_⟩⟩
      · have c : gI h (o + 2) (ix (nI (8992 - (n + 1)))) = 0 := c
        rw [ix_n (by omega)] at c
        have nP : ¬ P (8992 - (n + 1)) := fun q => (hm (8992 - (n + 1)) (by omega)).mpr q c
        have ey : y = nI (8992 - (n + 1)) + 1 := ey
        rw [← nI_succ, show 8992 - (n + 1) + 1 = 8992 - n from by omega] at ey
        subst ey
        have lt : ∀ a, a < 8992 - n → P a → a < 8992 - (n + 1) := fun a ha hpa => by
          rcases Nat.lt_or_ge a (8992 - (n + 1)) with q | q
          · exact q
          · rw [show a = 8992 - (n + 1) from by omega] at hpa; exact absurd hpa nP
        refine ih g l (by omega) ?_ hg9 hl (by omega) (fun a ha hpa => hl3 a (lt a ha hpa) hpa)
        rcases hg with q | q
        · obtain ⟨⟨a, b, u⟩, v⟩ := q
          exact Or.inl ⟨⟨a, b, u.1, by omega, u.2.2⟩, fun g' ⟨a', b', u'⟩ => v g' ⟨a', b', u'.1, lt a' u'.2.1 u'.2.2.1, u'.2.2⟩⟩
        · exact Or.inr ⟨q.1, fun a b u v w => q.2 a b u (lt a v w) w⟩
      · have c : ¬ gI h (o + 2) (ix (nI (8992 - (n + 1)))) = 0 := c
        rw [ix_n (by omega)] at c
        have hPs : P (8992 - (n + 1)) := (hm (8992 - (n + 1)) (by omega)).mp c
        have ez : z = nI (8992 - (n + 1)) + 1 := ez
        rw [← nI_succ, show 8992 - (n + 1) + 1 = 8992 - n from by omega] at ez
        have ey : y = if nI (8992 - (n + 1)) - nI l < nI g then nI (8992 - (n + 1)) - nI l else nI g := ey
        rw [nI_sub (by omega) (by omega)] at ey
        have ey2 : y = nI (if 8992 - (n + 1) - l < g then 8992 - (n + 1) - l else g) := by
          rw [ey]
          by_cases q : 8992 - (n + 1) - l < g
          · rw [if_pos q, if_pos (nI_lt q (by omega))]
          · rw [if_neg q, if_neg (nI_nlt (by omega) (by omega))]
        subst ey2 ez
        clear ey
        refine ih _ (8992 - (n + 1)) (by omega) (Or.inl ?_) (by split <;> omega) hPs (by omega) (fun a ha _ => by omega)
        have one : ∀ a' b', b' < a' → a' < 8992 - n → P a' → P b' → (a' < 8992 - (n + 1) ∨ (a' = 8992 - (n + 1) ∧ b' ≤ l)) := fun a' b' u v w w' => by
          rcases Nat.lt_or_ge a' (8992 - (n + 1)) with q | q
          · exact Or.inl q
          · exact Or.inr ⟨by omega, hl3 b' (by omega) w'⟩
        by_cases q : 8992 - (n + 1) - l < g
        · rw [if_pos q]
          refine ⟨⟨8992 - (n + 1), l, by omega, by omega, hPs, hl, rfl⟩, fun g' ⟨a', b', u1, u2, u3, u4, u5⟩ => ?_⟩
          rcases one a' b' u1 u2 u3 u4 with r | r
          · rcases hg with w | w
            · have := w.2 g' ⟨a', b', u1, r, u3, u4, u5⟩; omega
            · exact absurd (w.2 a' b' u1 r u3 u4) id
          · omega
        · rw [if_neg q]
          rcases hg with w | w
          · obtain ⟨⟨a, b, u⟩, v⟩ := w
            refine ⟨⟨a, b, u.1, by omega, u.2.2⟩, fun g' ⟨a', b', u1, u2, u3, u4, u5⟩ => ?_⟩
            rcases one a' b' u1 u2 u3 u4 with r | r
            · exact v g' ⟨a', b', u1, r, u3, u4, u5⟩
            · omega
          · omega
  refine key 8991 8992 0 (Nat.le_refl _) (Or.inr ⟨rfl, fun a b u v _ _ => by omega⟩) (Nat.le_refl _) h0 (by omega) (fun a ha _ => by omega)
theorem bagS_0 {C : Nat → Nat} : ∀ K, bagS C K 0 = 0
  | 0 => rfl
  | K + 1 => by
    show bagS C K 0 + _ = 0
    rw [bagS_0 K, Nat.zero_div]
    rfl
theorem c_gap {h : hp} {o K : Nat} {C : Nat → Nat} {Q : Int32 → hp → Prop} (ho : isO o) (a : cBags o h K C) (ok : okBags K C) (hq0 : K = 0 → Q (-2) h) (hq1 : ∀ g h1, 0 < K → isMin (gapP (bagS C K) (2 ^ K)) g → eqE cScr h h1 → Q (nI g) h1) : w_X0_leastGap (o + 15) h Q := by
  have hM := pow_9 ok.1
  have hK := ok.1
  unfold w_X0_leastGap w_X0_leastGap_0
  rw [a.1]
  refine ⟨fun c => ?_, fun c => hq0 ((nI_eq (a := K) (b := 0) (by omega) (by omega)).mp c)⟩
  have hK0 : 0 < K := by
    rcases Nat.eq_zero_or_pos K with q | q
    · exact absurd (by rw [q]; rfl) c
    · exact q
  have hpos : 2 ≤ 2 ^ K := Nat.le_trans (show 2 ≤ 2 ^ 1 by decide) (Nat.pow_le_pow_right (by omega) hK0)
  have hf : ∀ i, bagS C K i ≤ 8991 := fun i => by have := bagS_le (C := C) i K ok.2; omega
  have scr : ∀ j, cScr (o + 17) j := fun j => by
    unfold cScr
    rcases ho with q | q
    · subst q; omega
    · subst q; omega
  refine c_fillB (by omega) ?_
  have e2 : eqE cScr h (fillI (o + 15 + 2) (jb 0) h 8992) := eqE_fill (eqE_refl h) (fun j _ => scr j)
  have m2 : mrk (o + 17) (fillI (o + 15 + 2) (jb 0) h 8992) (fun j => ∃ i, i < 0 ∧ bagS C K i = j) := fun j hj => by
    rw [fillI_I, if_pos ⟨rfl, hj⟩]
    exact ⟨fun q => absurd (show jb 0 = 0 by decide) q, fun ⟨i, hi, _⟩ => by omega⟩
  generalize fillI (o + 15 + 2) (jb 0) h 8992 = h2 at e2 m2
  unfold w_X0_leastGap_20
  intro X hX
  have key : ∀ (n i : Nat) (g : hp), n + i = 2 ^ K → eqE cScr h g → mrk (o + 17) g (fun j => ∃ i', i' < i ∧ bagS C K i' = j) → (∀ a b, b < a → a < i → ¬ bagS C K a = bagS C K b) → X (nI i, g) := by
    intro n
    induction n with
    | zero =>
      intro i g hi eg mg dg
      have ei : i = 2 ^ K := by omega
      subst ei
      apply hX
      unfold w_X0_leastGap_b20 w_X0_sets w_X0_sets_0
      have e15 : gI g (o + 15) 0 = nI K := by
        rw [(eg.1 (o + 15) 0 (by unfold cScr; rcases ho with q | q <;> subst q <;> omega)).1]; exact a.1
      rw [e15, shl1 K (by omega)]
      refine ⟨fun _ => ?_, fun c => absurd (nI_le (Nat.le_refl _) (by omega)) c⟩
      refine c_between mg ⟨0, by omega, bagS_0 K⟩ (fun j ⟨i, _, e⟩ => by have := hf i; omega) (fun g' hg' => hq1 g' g hK0 ?_ eg)
      have conv : ∀ x y, y < x → x < 2 ^ K → dst (bagS C K x) (bagS C K y) = (if bagS C K y < bagS C K x then bagS C K x - bagS C K y else bagS C K y - bagS C K x) := fun x y _ _ => by
        unfold dst; split <;> omega
      rcases hg' with q | q
      · obtain ⟨⟨u, v, huv, ⟨x, hx, ex⟩, ⟨y, hy, ey⟩, e⟩, mn⟩ := q
        have mk : gapP (bagS C K) (2 ^ K) g' := by
          rcases Nat.lt_trichotomy x y with c | c | c
          · exact ⟨y, x, c, hy, by unfold dst; omega⟩
          · subst c; omega
          · exact ⟨x, y, c, hx, by unfold dst; omega⟩
        refine ⟨mk, fun g'' ⟨x', y', h1, h2, h3⟩ => ?_⟩
        have nd := dg x' y' h1 h2
        rcases Nat.lt_or_ge (bagS C K y') (bagS C K x') with c | c
        · exact mn g'' ⟨bagS C K x', bagS C K y', c, ⟨x', h2, rfl⟩, ⟨y', by omega, rfl⟩, by unfold dst at h3; omega⟩
        · exact mn g'' ⟨bagS C K y', bagS C K x', by omega, ⟨y', by omega, rfl⟩, ⟨x', h2, rfl⟩, by unfold dst at h3; omega⟩
      · have nd := dg 1 0 (by omega) (by omega)
        rcases Nat.lt_or_ge (bagS C K 0) (bagS C K 1) with c | c
        · exact absurd (q.2 _ _ c ⟨1, by omega, rfl⟩ ⟨0, by omega, rfl⟩) id
        · exact absurd (q.2 (bagS C K 0) (bagS C K 1) (by omega) ⟨0, by omega, rfl⟩ ⟨1, by omega, rfl⟩) id
    | succ n ih =>
      intro i g hi eg mg dg
      apply hX
      unfold w_X0_leastGap_b20 w_X0_sets w_X0_sets_0
      have e15 : gI g (o + 15) 0 = nI K := by
        rw [(eg.1 (o + 15) 0 (by unfold cScr; rcases ho with q | q <;> subst q <;> omega)).1]; exact a.1
      have e16 : gI g (o + 16) i = nI (bagS C K i) := by
        rw [(eg.1 (o + 16) i (by unfold cScr; rcases ho with q | q <;> subst q <;> omega)).1]; exact a.2 i (by omega)
      have hfi := hf i
      rw [e15, shl1 K (by omega)]
      refine ⟨fun c => absurd c (nI_ge (by omega) (by omega)), fun _ => ⟨in_n (by omega) (by omega), fun x ex => ?_⟩⟩
      have ex : x = gI g (o + 16) (ix (nI i)) := ex
      rw [ix_n (by omega), e16] at ex
      subst ex
      refine ⟨fun c => absurd c (nI_ge (b := 8992) (by omega) (by omega)), fun _ => ⟨in_n (by omega) (by omega), fun c => ?_, fun c => ?_⟩⟩
      · have c : gI g (o + 17) (ix (nI (bagS C K i))) = 0 := c
        rw [ix_n (by omega)] at c
        refine ⟨in_n (by omega) (by omega), fun h3 e3 y ey => ?_⟩
        have e3 : h3 = sI g (o + 17) (ix (nI (bagS C K i))) (jb 1) := e3
        have ey : y = nI i + 1 := ey
        rw [ix_n (by omega)] at e3
        rw [← nI_succ] at ey
        subst ey e3
        refine ih (i + 1) _ (by omega) (eqE_sI eg (scr _)) (fun j hj => ?_) (fun x y hxy hx => ?_)
        · rw [gI_sI]
          by_cases q : j = bagS C K i
          · rw [if_pos ⟨rfl, q⟩]
            exact ⟨fun _ => ⟨i, by omega, q.symm⟩, fun _ => by decide⟩
          · rw [if_neg (fun z => q z.2)]
            have := mg j hj
            refine ⟨fun z => ?_, fun ⟨i', hi', e⟩ => this.mpr ⟨i', ?_, e⟩⟩
            · obtain ⟨i', hi', e⟩ := this.mp z
              exact ⟨i', by omega, e⟩
            · rcases Nat.lt_or_ge i' i with w | w
              · exact w
              · rw [show i' = i from by omega] at e; exact absurd e.symm q
        · rcases Nat.lt_or_ge x i with w | w
          · exact dg x y hxy w
          · have exi : x = i := by omega
            subst exi
            intro e
            exact (mg (bagS C K x) (by omega)).mpr ⟨y, hxy, e.symm⟩ c
      · have c : ¬ gI g (o + 17) (ix (nI (bagS C K i))) = 0 := c
        rw [ix_n (by omega)] at c
        obtain ⟨i', hi', e⟩ := (mg (bagS C K i) (by omega)).mp c
        exact hq1 0 g hK0 ⟨⟨i, i', hi', by omega, by unfold dst; omega⟩, fun g' _ => Nat.zero_le _⟩ eg
  exact key (2 ^ K) 0 h2 (by omega) e2 m2 (fun a b _ h => by omega)
theorem c_margin {h : hp} {o K : Nat} {C : Nat → Nat} {Q : Int32 → hp → Prop} (t : cAt h o) (ho : isO o) (a : cBags o h K C) (ok : okBags K C) (hq0 : K = 0 → Q (-2) h) (hq1 : ∀ g h1, 0 < K → isMin (gapP (bagS C K) (2 ^ K)) g → eqE cScr h h1 → Q (nI g) h1) : w_X11_margin h Q := by
  unfold w_X11_margin w_X11_margin_0
  rw [t.1]
  exact ⟨t.2, c_gap ho a ok hq0 hq1⟩
theorem c_allTold {h : hp} {o K : Nat} {C : Nat → Nat} {Q : Int32 → hp → Prop} (t : cAt h o) (ho : isO o) (a : cBags o h K C) (ok : okBags K C) (hq0 : ∀ h1, gapP (bagS C K) (2 ^ K) 0 → eqE cScr h h1 → Q 0 h1) (hq1 : ∀ h1, ¬ gapP (bagS C K) (2 ^ K) 0 → eqE cScr h h1 → Q 1 h1) : w_X11_allTold h Q := by
  unfold w_X11_allTold w_X11_allTold_0
  have hM := pow_9 ok.1
  rw [t.1]
  refine ⟨t.2, c_gap ho a ok (fun e => ⟨fun c => absurd c (by decide), fun _ => hq1 h (fun ⟨i, j, u, v, _⟩ => ?_) (eqE_refl h)⟩) (fun g h1 hK mn eh => ?_)⟩
  · rw [e] at v; omega
  · have hf : ∀ i, bagS C K i ≤ 8991 := fun i => by have := bagS_le (C := C) i K ok.2; have := ok.1; omega
    have hg : g ≤ 8991 := by
      obtain ⟨⟨i, j, _, _, e⟩, _⟩ := mn
      have := hf i
      have := hf j
      unfold dst at e
      omega
    refine ⟨fun c => ?_, fun c => ?_⟩
    · have := (nI_eq (a := g) (b := 0) (by omega) (by omega)).mp c
      subst this
      exact hq0 h1 mn.1 eh
    · refine hq1 h1 (fun q => c ?_) eh
      have := mn.2 0 q
      rw [show g = 0 from by omega]; rfl
theorem m_allTold {h : hp} {s K : Nat} {C : Nat → Nat} {Q : Int32 → Prop} (t : mAt h s) (a : mBags s h K C) (ok : okBags K C) (hq0 : gapP (bagS C K) (2 ^ K) 0 → Q 0) (hq1 : ¬ gapP (bagS C K) (2 ^ K) 0 → Q 1) : w_X12_allTold h Q := by
  have hM := pow_9 ok.1
  have hs := t.2
  have hf : ∀ i, bagS C K i ≤ 8991 := fun i => by have := bagS_le (C := C) i K ok.2; have := ok.1; omega
  have eM : jshl 1 (gI h 17 (ix (gI h 0 18))) = nI (2 ^ K) := by rw [t.1, ix_n (by omega), a.1, shl1 K (by have := ok.1; omega)]
  unfold w_X12_allTold w_X12_allTold_0 w_X12_allTold_2
  intro X hX
  have key : ∀ n i : Nat, n + i = 2 ^ K → (∀ x y, x < i → x < y → y < 2 ^ K → ¬ bagS C K x = bagS C K y) → X (nI i) := by
    intro n
    induction n with
    | zero =>
      intro i hi d
      apply hX
      unfold w_X12_allTold_b2
      rw [eM]
      refine ⟨by rw [t.1]; exact in_n hs (by omega), fun _ => hq1 (fun ⟨x, y, u, v, w⟩ => ?_), fun c => absurd (nI_le (by omega) (by omega)) c⟩
      exact d y x (by omega) u v (by unfold dst at w; omega)
    | succ n ih =>
      intro i hi d
      apply hX
      unfold w_X12_allTold_b2
      rw [eM]
      refine ⟨by rw [t.1]; exact in_n hs (by omega), fun c => absurd c (nI_ge (by omega) (by omega)), fun _ y ey => ?_⟩
      rw [← nI_succ] at ey
      subst ey
      unfold w_X12_allTold_21
      intro Y hY
      have key2 : ∀ m j : Nat, m + j = 2 ^ K → i < j → (∀ y, i < y → y < j → ¬ bagS C K i = bagS C K y) → Y (nI j) := by
        intro m
        induction m with
        | zero =>
          intro j hj hij d2
          apply hY
          unfold w_X12_allTold_b21
          rw [eM]
          refine ⟨by rw [t.1]; exact in_n hs (by omega), fun _ y ey => ?_, fun c => absurd (nI_le (by omega) (by omega)) c⟩
          rw [← nI_succ] at ey
          subst ey
          refine ih (i + 1) (by omega) (fun x y hx hxy hy => ?_)
          rcases Nat.lt_or_ge x i with q | q
          · exact d x y q hxy hy
          · have e : x = i := by omega
            subst e
            exact d2 y hxy (by omega)
        | succ m ih2 =>
          intro j hj hij d2
          apply hY
          unfold w_X12_allTold_b21
          rw [eM]
          refine ⟨by rw [t.1]; exact in_n hs (by omega), fun c => absurd c (nI_ge (by omega) (by omega)), fun _ => m_sumOf (set := i) t a ok (by omega) (m_sumOf (set := j) t a ok (by omega) ⟨fun c y ey => ?_, fun c => hq0 ?_⟩)⟩
          · rw [← nI_succ] at ey
            subst ey
            refine ih2 (j + 1) (by omega) (by omega) (fun y hy1 hy2 => ?_)
            rcases Nat.lt_or_ge y j with q | q
            · exact d2 y hy1 q
            · have e : y = j := by omega
              subst e
              exact fun e2 => c (by rw [e2])
          · have := (nI_eq (a := bagS C K i) (b := bagS C K j) (by have := hf i; omega) (by have := hf j; omega)).mp c
            exact ⟨j, i, hij, by omega, by unfold dst; omega⟩
      exact key2 (2 ^ K - (i + 1)) (i + 1) (by omega) (by omega) (fun y h1 h2 => by omega)
  exact key (2 ^ K) 0 (by omega) (fun x y h => by omega)
/-- the best so far of P: none yet, or the least -/
def bst (x : Int32) (P : Nat → Prop) : Prop := (x = -1 ∧ ∀ g, ¬ P g) ∨ ∃ g, x = nI g ∧ g < 100000 ∧ isMin P g
theorem m_margin {h : hp} {s K : Nat} {C : Nat → Nat} {Q : Int32 → Prop} (t : mAt h s) (a : mBags s h K C) (ok : okBags K C) (hq0 : K = 0 → Q (-2)) (hq1 : ∀ g, 0 < K → isMin (gapP (bagS C K) (2 ^ K)) g → Q (nI g)) : w_X12_margin h Q := by
  have hM := pow_9 ok.1
  have hK := ok.1
  have hs := t.2
  have hf : ∀ i, bagS C K i ≤ 8991 := fun i => by have := bagS_le (C := C) i K ok.2; omega
  have eM : jshl 1 (gI h 17 (ix (gI h 0 18))) = nI (2 ^ K) := by rw [t.1, ix_n (by omega), a.1, shl1 K (by omega)]
  have eK : gI h 17 (ix (gI h 0 18)) = nI K := by rw [t.1, ix_n (by omega), a.1]
  have z0 : (0 : Int32).toInt = 0 := rfl
  unfold w_X12_margin w_X12_margin_0
  rw [eK]
  refine ⟨by rw [t.1]; exact in_n hs (by omega), fun c => ?_, fun c => hq0 ((nI_eq (a := K) (b := 0) (by omega) (by omega)).mp c)⟩
  have hK0 : 0 < K := by
    rcases Nat.eq_zero_or_pos K with q | q
    · exact absurd (by rw [q]; rfl) c
    · exact q
  have hpos : 2 ≤ 2 ^ K := Nat.le_trans (show 2 ≤ 2 ^ 1 by decide) (Nat.pow_le_pow_right (by omega) hK0)
  unfold w_X12_margin_19
  intro X hX
  have key : ∀ (n i : Nat) (x : Int32), n + i = 2 ^ K → bst x (gapP (bagS C K) i) → X (x, nI i) := by
    intro n
    induction n with
    | zero =>
      intro i x hi hb
      have ei : i = 2 ^ K := by omega
      subst ei
      apply hX
      unfold w_X12_margin_b19
      rw [eM]
      refine ⟨by rw [t.1]; exact in_n hs (by omega), fun _ => ?_, fun c => absurd (nI_le (Nat.le_refl _) (by omega)) c⟩
      rcases hb with q | ⟨g, e, _, mn⟩
      · exact absurd ⟨1, 0, by omega, by omega, rfl⟩ (q.2 (dst (bagS C K 1) (bagS C K 0)))
      · show Q x
        rw [e]
        exact hq1 g hK0 mn
    | succ n ih =>
      intro i x hi hb
      apply hX
      unfold w_X12_margin_b19
      rw [eM]
      refine ⟨by rw [t.1]; exact in_n hs (by omega), fun c => absurd c (nI_ge (by omega) (by omega)), fun _ => ?_⟩
      show w_X12_margin_36 Q X (nI i) h x 0
      unfold w_X12_margin_36
      intro Y hY
      have key2 : ∀ (m j : Nat) (x : Int32), m + j = i → bst x (fun g => gapP (bagS C K) i g ∨ ∃ j', j' < j ∧ dst (bagS C K i) (bagS C K j') = g) → Y (x, nI j) := by
        intro m
        induction m with
        | zero =>
          intro j x hj hb
          have ej : j = i := by omega
          subst ej
          apply hY
          unfold w_X12_margin_b36
          refine ⟨fun _ y ey => ?_, fun c => absurd (nI_le (Nat.le_refl _) (by omega)) c⟩
          rw [← nI_succ] at ey
          subst ey
          refine ih (j + 1) x (by omega) ?_
          have eP : ∀ g, gapP (bagS C K) (j + 1) g ↔ (gapP (bagS C K) j g ∨ ∃ j', j' < j ∧ dst (bagS C K j) (bagS C K j') = g) := fun g => by
            refine ⟨fun ⟨u, v, h1, h2, h3⟩ => ?_, fun q => ?_⟩
            · rcases Nat.lt_or_ge u j with w | w
              · exact Or.inl ⟨u, v, h1, w, h3⟩
              · have e : u = j := by omega
                subst e
                exact Or.inr ⟨v, h1, h3⟩
            · rcases q with ⟨u, v, h1, h2, h3⟩ | ⟨v, h1, h3⟩
              · exact ⟨u, v, h1, by omega, h3⟩
              · exact ⟨j, v, h1, by omega, h3⟩
          rcases hb with q | ⟨g, e, e2, mn⟩
          · exact Or.inl ⟨q.1, fun g hg => q.2 g ((eP g).mp hg)⟩
          · exact Or.inr ⟨g, e, e2, (eP g).mpr mn.1, fun g' hg' => mn.2 g' ((eP g').mp hg')⟩
        | succ m ih2 =>
          intro j x hj hb
          apply hY
          unfold w_X12_margin_b36
          refine ⟨fun c => absurd c (nI_ge (by omega) (by omega)), fun _ => m_sumOf (set := i) t a ok (by omega) (m_sumOf (set := j) t a ok (by omega) ?_)⟩
          have hfi := hf i
          have hfj := hf j
          have e1 := n_toInt (n := bagS C K i) (by omega)
          have e2 := n_toInt (n := bagS C K j) (by omega)
          have es : (nI (bagS C K i) - nI (bagS C K j)).toInt = (bagS C K i : Int) - bagS C K j := by rw [t_sub (by rw [e1, e2]; omega) (by rw [e1, e2]; omega), e1, e2]
          have fin : ∀ d : Int32, d = nI (dst (bagS C K i) (bagS C K j)) → w_X12_margin_64 Q X Y x (nI i) (nI j) d h := by
            intro d ed
            subst ed
            have hd : dst (bagS C K i) (bagS C K j) ≤ 8991 := by unfold dst; omega
            have ed := n_toInt (n := dst (bagS C K i) (bagS C K j)) (by omega)
            have st : ∀ g, g < 100000 → g ≤ dst (bagS C K i) (bagS C K j) → (∀ g', (gapP (bagS C K) i g' ∨ ∃ j', j' < j ∧ dst (bagS C K i) (bagS C K j') = g') → g ≤ g') → (gapP (bagS C K) i g ∨ ∃ j', j' < j + 1 ∧ dst (bagS C K i) (bagS C K j') = g) → Y (nI g, nI (j + 1)) := by
              intro g hg1 hg2 hg3 hg4
              refine ih2 (j + 1) _ (by omega) (Or.inr ⟨g, rfl, hg1, hg4, fun g' hg' => ?_⟩)
              rcases hg' with q | ⟨j', h1, h2⟩
              · exact hg3 g' (Or.inl q)
              · rcases Nat.lt_or_ge j' j with w | w
                · exact hg3 g' (Or.inr ⟨j', w, h2⟩)
                · rw [show j' = j from by omega] at h2; omega
            unfold w_X12_margin_64
            rcases hb with q | ⟨g, e, e2, mn⟩
            · refine ⟨fun _ y ey => ?_, fun c => absurd (by rw [q.1]; decide) c⟩
              rw [← nI_succ] at ey
              subst ey
              refine st _ (by omega) (Nat.le_refl _) (fun g' hg' => absurd hg' (q.2 g')) (Or.inr ⟨j, by omega, rfl⟩)
            · subst e
              refine ⟨fun c => absurd c (nI_pos (by omega)), fun _ => ⟨fun c y ey => ?_, fun c y ey => ?_⟩⟩
              · rw [nI_leI (by omega) (by omega)] at c
                rw [← nI_succ] at ey
                subst ey
                refine st g (by omega) c mn.2 ?_
                rcases mn.1 with q | ⟨j', h1, h2⟩
                · exact Or.inl q
                · exact Or.inr ⟨j', by omega, h2⟩
              · rw [nI_leI (by omega) (by omega)] at c
                rw [← nI_succ] at ey
                subst ey
                refine st _ (by omega) (Nat.le_refl _) (fun g' hg' => ?_) (Or.inr ⟨j, by omega, rfl⟩)
                have := mn.2 g' hg'
                omega
          intro d ed
          refine ⟨fun c => fin d ?_, fun c d2 ed2 => fin d2 ?_⟩
          · rw [ed, t_le, z0, es] at c
            rw [ed]
            exact t_eq.mpr (by rw [es, n_toInt (by unfold dst; omega)]; unfold dst; omega)
          · rw [ed, t_le, z0, es] at c
            rw [ed2, ed]
            refine t_eq.mpr ?_
            rw [Int32.toInt_neg, es, bm32 (by omega) (by omega), n_toInt (by unfold dst; omega)]
            unfold dst
            omega
      refine key2 i 0 x (by omega) ?_
      rcases hb with q | ⟨g, e, e2, mn⟩
      · exact Or.inl ⟨q.1, fun g hg => by
          rcases hg with w | ⟨j', h1, _⟩
          · exact q.2 g w
          · omega⟩
      · exact Or.inr ⟨g, e, e2, Or.inl mn.1, fun g' hg' => by
          rcases hg' with w | ⟨j', h1, _⟩
          · exact mn.2 g' w
          · omega⟩
  exact key (2 ^ K) 0 (-1) (by omega) (Or.inl ⟨rfl, fun g ⟨u, v, h1, h2, _⟩ => by omega⟩)
/-! what the class's worlds come to -/
def pwL (b : Int64) : Nat → Int64
  | 0 => 1
  | k + 1 => pwL b k * b
theorem horF_add {g : Nat → Int32} {b : Int64} : ∀ (n : Nat) (acc c : Int64), horF g b n (acc + c) = horF g b n acc + c * pwL b n
  | 0, acc, c => by
    show acc + c = acc + c * 1
    rw [Int64.mul_one]
  | n + 1, acc, c => by
    show horF g b n ((acc + c) * b + (g n).toInt64) = horF g b n (acc * b + (g n).toInt64) + c * (pwL b n * b)
    have e : (acc + c) * b + (g n).toInt64 = (acc * b + (g n).toInt64) + c * b := by
      rw [Int64.add_mul, Int64.add_assoc, Int64.add_comm (c * b), ← Int64.add_assoc]
    rw [e, horF_add n, Int64.mul_assoc, Int64.mul_comm b]
theorem horF_inc {g g' : Nat → Int32} {b : Int64} {p : Nat} (hp : (g p).toInt64 = (g' p).toInt64 + 1) (hg : ∀ k, k ≠ p → g k = g' k) : ∀ (n : Nat) (acc : Int64), p < n → horF g b n acc = horF g' b n acc + pwL b p
  | 0, _, h => absurd h (by omega)
  | n + 1, acc, h => by
    show horF g b n (acc * b + (g n).toInt64) = horF g' b n (acc * b + (g' n).toInt64) + pwL b p
    by_cases e : p = n
    · subst e
      rw [hp, ← Int64.add_assoc, horF_add, Int64.one_mul, horF_congr p _ (fun k hk => hg k (by omega))]
    · rw [hg n (fun q => e q.symm)]
      exact horF_inc hp hg n _ (by omega)
theorem horF_z {g : Nat → Int32} {b : Int64} (hg : ∀ k, g k = 0) : ∀ n : Nat, horF g b n 0 = 0
  | 0 => rfl
  | n + 1 => by
    show horF g b n (0 * b + (g n).toInt64) = 0
    rw [hg n, show (0 : Int64) * b + (0 : Int32).toInt64 = 0 from by rw [Int64.zero_mul]; rfl]
    exact horF_z hg n
theorem figW_0 (G k : Nat) : figW G 0 k = 0 := by
  unfold figW
  rw [Nat.zero_div, Nat.zero_mod]
theorem wcV_0 {W G : Nat} {b : Int64} : wcV W G 0 b = 0 := horF_z (fun k => by rw [figW_0]; rfl) W
/-- one more at place p -/
theorem figW_inc {G i p : Nat} (h1 : (G + 1) ^ p ≤ i) (h2 : i < (G + 1) ^ (p + 1)) : figW G i p = figW G (i - (G + 1) ^ p) p + 1 ∧ ∀ k, k ≠ p → figW G i k = figW G (i - (G + 1) ^ p) k := by
  have hB : 0 < (G + 1) ^ p := Nat.pow_pos (by omega)
  obtain ⟨j, rfl⟩ : ∃ j, i = j + (G + 1) ^ p := ⟨i - (G + 1) ^ p, by omega⟩
  rw [Nat.add_sub_cancel]
  refine ⟨?_, fun k hk => ?_⟩
  · unfold figW
    rw [Nat.add_div_right _ hB]
    have hq : j / (G + 1) ^ p + 1 < G + 1 := by
      have : (j + (G + 1) ^ p) / (G + 1) ^ p < G + 1 := by
        rw [Nat.div_lt_iff_lt_mul hB, Nat.mul_comm, ← Nat.pow_succ]
        exact h2
      rw [Nat.add_div_right _ hB] at this
      exact this
    show (j / (G + 1) ^ p + 1) % (G + 1) = j / (G + 1) ^ p % (G + 1) + 1
    rw [Nat.mod_eq_of_lt hq, Nat.mod_eq_of_lt (by omega)]
  · unfold figW
    rcases Nat.lt_or_ge k p with q | q
    · have e : (G + 1) ^ p = (G + 1) ^ k * ((G + 1) * (G + 1) ^ (p - k - 1)) := by
        rw [← Nat.pow_succ', ← Nat.pow_add]
        congr 1
        omega
      rw [e, Nat.add_mul_div_left _ _ (Nat.pow_pos (by omega)), Nat.add_mul_mod_self_left]
    · have hle : (G + 1) ^ (p + 1) ≤ (G + 1) ^ k := Nat.pow_le_pow_right (by omega) (by omega)
      rw [Nat.div_eq_of_lt (by omega), Nat.div_eq_of_lt (by omega)]
theorem nI_inc64 {a : Nat} (h : a + 1 < 2147483648) : (nI (a + 1)).toInt64 = (nI a).toInt64 + 1 := by
  have e1 := n_toInt h
  have e2 := n_toInt (n := a) (by omega)
  have e3 : (1 : Int64).toInt = 1 := rfl
  refine tL_eq.mpr ?_
  rw [tL_add (by rw [tL_int, e2, e3]; omega) (by rw [tL_int, e2, e3]; omega), tL_int, tL_int, e1, e2, e3]
  omega
theorem wcV_inc {W G i p : Nat} {b : Int64} (hG : G ≤ 9) (hp : p < W) (h1 : (G + 1) ^ p ≤ i) (h2 : i < (G + 1) ^ (p + 1)) : wcV W G i b = wcV W G (i - (G + 1) ^ p) b + pwL b p := by
  obtain ⟨f1, f2⟩ := figW_inc h1 h2
  have hlt : figW G i p < G + 1 := Nat.mod_lt _ (by omega)
  refine horF_inc ?_ (fun k hk => by show nI (figW G i k) = nI _; rw [f2 k hk]) W 0 hp
  show (nI (figW G i p)).toInt64 = (nI (figW G (i - (G + 1) ^ p) p)).toInt64 + 1
  rw [f1]
  exact nI_inc64 (by omega)
/-- the values of all worlds stand -/
def cVal (h : hp) (W G : Nat) (b : Int64) : Prop := ∀ i, i < (G + 1) ^ W → gL h 65 i = wcV W G i b
theorem cWld_e {h h1 : hp} {W G : Nat} (e : eqE cScr h h1) (a : cWld h W G) : cWld h1 W G :=
  ⟨by rw [(e.1 64 0 (by unfold cScr; omega)).1]; exact a.1, by rw [(e.1 64 1 (by unfold cScr; omega)).1]; exact a.2.1, by rw [(e.1 64 2 (by unfold cScr; omega)).1]; exact a.2.2⟩
/-- only what worlds come to has changed -/
def vScr (a _j : Nat) : Prop := a = 65
theorem eqE_w {P P' : Nat → Nat → Prop} {h h1 : hp} (hP : ∀ a j, P a j → P' a j) (e : eqE P h h1) : eqE P' h h1 := ⟨fun a j n => e.1 a j (fun q => n (hP a j q)), e.2⟩
theorem vScr_c : ∀ a j, vScr a j → cScr a j := fun a j h => Or.inl h
theorem cWld_v {h h1 : hp} {W G : Nat} (e : eqE vScr h h1) (a : cWld h W G) : cWld h1 W G := cWld_e (eqE_w vScr_c e) a
theorem c_comeBy {h : hp} {W G : Nat} {b : Int64} {Q : hp → Prop} (a : cWld h W G) (ok : okW W G) (hq : ∀ h1, eqE vScr h h1 → cVal h1 W G b → Q h1) : w_X10_comeBy h b Q := by
  obtain ⟨o1, o2, o3, o4⟩ := id ok
  unfold w_X10_comeBy w_X10_comeBy_0
  refine ⟨in_n (k := 0) (by omega) (by omega), fun h1 e1 => ?_⟩
  have x1 : eqE vScr h h1 := by rw [e1]; exact eqE_sL (eqE_refl h) rfl
  have v1 : ∀ i, i < 1 → gL h1 65 i = wcV W G i b := fun i hi => by
    rw [show i = 0 from by omega, wcV_0, e1]
    exact gL_at _ _ _ _
  clear e1
  unfold w_X10_comeBy_15
  intro X hX
  have key : ∀ (n p : Nat) (g : hp), n + p = W → eqE vScr h g → (∀ i, i < (G + 1) ^ p → gL g 65 i = wcV W G i b) → X (nI ((G + 1) ^ p), pwL b p, nI p, g) := by
    intro n
    induction n with
    | zero =>
      intro p g hpW xg vg
      have ep : p = W := by omega
      subst ep
      apply hX
      refine ⟨fun _ => hq g xg vg, fun c => absurd ?_ c⟩
      show gI g 64 0 ≤ nI p
      rw [(cWld_v xg a).1]
      exact nI_le (Nat.le_refl _) (by omega)
    | succ n ih =>
      intro p g hpW xg vg
      apply hX
      refine ⟨fun c => absurd c ?_, fun _ => ?_⟩
      · show ¬ gI g 64 0 ≤ nI p
        rw [(cWld_v xg a).1]
        exact nI_ge (by omega) (by omega)
      · show w_X10_comeBy_30 Q X b (pwL b p) (nI p) (nI ((G + 1) ^ p)) (nI ((G + 1) ^ p)) 0 g
        have p1 := pow_W (G := G) (j := p) o4 (by omega)
        have p2 := pow_W (G := G) (j := p + 1) o4 (by omega)
        have p0 : 0 < (G + 1) ^ p := Nat.pow_pos (by omega)
        have pp : (G + 1) ^ (p + 1) = (G + 1) ^ p * G + (G + 1) ^ p := by rw [Nat.pow_succ, Nat.mul_add, Nat.mul_one]
        unfold w_X10_comeBy_30
        intro Y hY
        have key2 : ∀ (m i : Nat) (g : hp), m + i = (G + 1) ^ p * G → eqE vScr h g → (∀ j, j < (G + 1) ^ p + i → gL g 65 j = wcV W G j b) → Y (nI ((G + 1) ^ p + i), nI i, g) := by
          intro m
          induction m with
          | zero =>
            intro i g hi xg vg
            have ei : i = (G + 1) ^ p * G := by omega
            subst ei
            apply hY
            refine ⟨fun _ y ey z ez => ?_, fun c => absurd ?_ c⟩
            · have ey : y = pwL b (p + 1) := ey
              have ez : z = nI p + 1 := ez
              rw [← nI_succ] at ez
              subst ey ez
              have := ih (p + 1) g (by omega) xg (fun j hj => vg j (by omega))
              rw [pp, Nat.add_comm] at this
              exact this
            · show nI ((G + 1) ^ p) * gI g 64 2 ≤ nI ((G + 1) ^ p * G)
              rw [(cWld_v xg a).2.2, nI_mul (by omega) (by omega) (by omega)]
              exact nI_le (Nat.le_refl _) (by omega)
          | succ m ih2 =>
            intro i g hi xg vg
            apply hY
            refine ⟨fun c => absurd c ?_, fun _ => ⟨fun c => absurd c ?_, fun _ => ?_⟩⟩
            · show ¬ nI ((G + 1) ^ p) * gI g 64 2 ≤ nI i
              rw [(cWld_v xg a).2.2, nI_mul (by omega) (by omega) (by omega)]
              exact nI_ge (by omega) (by omega)
            · exact nI_ge (b := 10000) (by omega) (by omega)
            · have es : nI ((G + 1) ^ p + i) - nI ((G + 1) ^ p) = nI i := by
                rw [nI_sub (by omega) (by omega)]
                congr 1
                omega
              refine ⟨?_, in_n (by omega) (by omega), fun h9 e9 y ey z ez => ?_⟩
              · show vp_in (nI ((G + 1) ^ p + i) - nI ((G + 1) ^ p)) 10000
                rw [es]
                exact in_n (by omega) (by omega)
              · have e9 : h9 = sL g 65 (ix (nI ((G + 1) ^ p + i))) (gL g 65 (ix (nI ((G + 1) ^ p + i) - nI ((G + 1) ^ p))) + pwL b p) := e9
                have ey : y = nI ((G + 1) ^ p + i) + 1 := ey
                have ez : z = nI i + 1 := ez
                rw [es, ix_n (by omega), ix_n (by omega)] at e9
                rw [← nI_succ] at ey ez
                subst ey ez
                refine ih2 (i + 1) h9 (by omega) ?_ (fun j hj => ?_)
                · rw [e9]; exact eqE_sL xg rfl
                · rw [e9, gL_sL]
                  by_cases q : j = (G + 1) ^ p + i
                  · rw [if_pos ⟨rfl, q⟩, vg i (by omega), q]
                    have := wcV_inc (i := (G + 1) ^ p + i) (b := b) o4 (show p < W by omega) (by omega) (by omega)
                    rw [this]
                    congr 2
                    omega
                  · rw [if_neg (fun z => q z.2)]
                    exact vg j (by omega)
        have := key2 ((G + 1) ^ p * G) 0 g (by omega) xg vg
        exact this
  have := key W 0 h1 (by omega) x1 (by rw [Nat.pow_zero]; exact v1)
  exact this
/-! worldsAt -/
abbrev wAtP (W G : Nat) (b v : Int64) (i : Nat) : Prop := wcV W G i b = v
theorem c_worldsAt {h : hp} {W G : Nat} {x : Int32} {v : Int64} {Q : Int32 → hp → Prop} (a : cWld h W G) (ok : okW W G) (hq1 : ∀ h1, -99 ≤ x.toInt ∧ x.toInt ≤ 99 → eqE cScr h h1 → Q (nI (cntF (wAtP W G x.toInt64 v) ((G + 1) ^ W) ((G + 1) ^ W) 0)) h1) (hq0 : ¬ (-99 ≤ x.toInt ∧ x.toInt ≤ 99) → Q (-1) h) : w_X11_worldsAt h x v Q := by
  obtain ⟨o1, o2, o3, o4⟩ := id ok
  have hM := pow_W (G := G) (j := W) o4 o2
  unfold w_X11_worldsAt w_X11_worldsAt_0
  refine c_within (fun c1 => ⟨fun q => absurd q (by decide), fun _ => ?_⟩) (fun c1 => ⟨fun _ => hq0 (fun q => c1 (by rw [tL_int]; exact q)), fun q => absurd rfl q⟩)
  rw [tL_int] at c1
  unfold w_X10_howManyComeTo w_X10_howManyComeTo_0
  refine c_comeBy a ok (fun h1 x1 v1 => ?_)
  have hq := hq1 h1 c1 (eqE_w vScr_c x1)
  have a1 := cWld_v x1 a
  unfold w_X10_howManyComeTo_12
  intro X hX
  generalize hMe : (G + 1) ^ W = M at hM a1 v1 hq
  have key : ∀ n acc : Nat, n ≤ M → Q (nI (cntF (wAtP W G x.toInt64 v) M n acc)) h1 → X (nI acc, nI (M - n)) := by
    intro n
    induction n with
    | zero =>
      intro acc _ hq
      apply hX
      refine ⟨fun _ => hq, fun c => absurd ?_ c⟩
      show gI h1 64 1 ≤ nI M
      rw [a1.2.1, hMe]
      exact nI_le (Nat.le_refl _) (by omega)
    | succ n ih =>
      intro acc hn hq
      unfold cntF at hq
      apply hX
      refine ⟨fun c => absurd c ?_, fun _ => ⟨in_n (by omega) (by omega), fun c u eu => ?_, fun c w ew u eu => ?_⟩⟩
      · show ¬ gI h1 64 1 ≤ nI (M - (n + 1))
        rw [a1.2.1, hMe]
        exact nI_ge (by omega) (by omega)
      · have c : ¬ gL h1 65 (ix (nI (M - (n + 1)))) = v := c
        rw [ix_n (by omega), v1 _ (by omega)] at c
        have eu : u = nI (M - (n + 1)) + 1 := eu
        rw [← nI_succ, show M - (n + 1) + 1 = M - n from by omega] at eu
        rw [if_neg c] at hq
        subst eu
        exact ih acc (by omega) hq
      · have c : gL h1 65 (ix (nI (M - (n + 1)))) = v := c
        rw [ix_n (by omega), v1 _ (by omega)] at c
        have eu : u = nI (M - (n + 1)) + 1 := eu
        have ew : w = nI acc + 1 := ew
        rw [← nI_succ, show M - (n + 1) + 1 = M - n from by omega] at eu
        rw [← nI_succ] at ew
        rw [if_pos c] at hq
        subst eu ew
        exact ih (acc + 1) (by omega) hq
  have := key M 0 (Nat.le_refl _) hq
  rw [Nat.sub_self] at this
  exact this
theorem m_worldsAt {h : hp} {s W G : Nat} {x : Int32} {v : Int64} {Q : Int32 → Prop} (t : mAt h s) (a : mWld s h W G) (ok : okW W G) (hq1 : -99 ≤ x.toInt ∧ x.toInt ≤ 99 → Q (nI (cntF (wAtP W G x.toInt64 v) ((G + 1) ^ W) ((G + 1) ^ W) 0))) (hq0 : ¬ (-99 ≤ x.toInt ∧ x.toInt ≤ 99) → Q (-1)) : w_X12_worldsAt h x v Q := by
  obtain ⟨o1, o2, o3, o4⟩ := id ok
  have hM := pow_W (G := G) (j := W) o4 o2
  unfold w_X12_worldsAt w_X12_worldsAt_0
  refine m_in (fun c1 => ⟨fun _ => ?_, fun q => absurd q (by decide)⟩) (fun c1 => ⟨fun q => absurd rfl q, fun _ => hq0 (fun q => c1 (by rw [tL_int]; exact q))⟩)
  rw [tL_int] at c1
  have hq := hq1 c1
  unfold w_X12_worldsAt_22
  intro X hX
  have wa : ∀ {R : Int32 → Prop}, R (nI ((G + 1) ^ W)) → w_X12_worldAll h R := fun hr => m_worldAll t a ok hr
  generalize (G + 1) ^ W = M at hM wa hq
  have key : ∀ n acc : Nat, n ≤ M → Q (nI (cntF (wAtP W G x.toInt64 v) M n acc)) → X (nI acc, nI (M - n)) := by
    intro n
    induction n with
    | zero =>
      intro acc _ hq
      apply hX
      exact wa ⟨fun _ => hq, fun c => absurd (nI_le (Nat.le_refl _) (by omega)) c⟩
    | succ n ih =>
      intro acc hn hq
      unfold cntF at hq
      apply hX
      refine wa ⟨fun c => absurd c (nI_ge (by omega) (by omega)), fun _ => m_worldComes t a ok (by omega) ⟨fun c u eu => ?_, fun c w ew u eu => ?_⟩⟩
      · have eu : u = nI (M - (n + 1)) + 1 := eu
        rw [← nI_succ, show M - (n + 1) + 1 = M - n from by omega] at eu
        rw [if_neg c] at hq
        subst eu
        exact ih acc (by omega) hq
      · have eu : u = nI (M - (n + 1)) + 1 := eu
        have ew : w = nI acc + 1 := ew
        rw [← nI_succ, show M - (n + 1) + 1 = M - n from by omega] at eu
        rw [← nI_succ] at ew
        rw [if_pos c] at hq
        subst eu ew
        exact ih (acc + 1) (by omega) hq
  have := key M 0 (Nat.le_refl _) hq
  rw [Nat.sub_self] at this
  exact this
/-! tables with open places -/
def cntB (occ : Nat → Bool) : Nat → Nat
  | 0 => 0
  | n + 1 => cntB occ n + (if occ n = true then 1 else 0)
theorem cntB_all {occ : Nat → Bool} : ∀ n, (∀ p, p < n → occ p = true) → cntB occ n = n
  | 0, _ => rfl
  | n + 1, h => by
    unfold cntB
    rw [cntB_all n (fun p hp => h p (by omega)), if_pos (h n (by omega))]
theorem cntB_none {occ : Nat → Bool} : ∀ n, (∀ p, p < n → occ p = false) → cntB occ n = 0
  | 0, _ => rfl
  | n + 1, h => by
    unfold cntB
    rw [cntB_none n (fun p hp => h p (by omega)), h n (by omega)]
    rfl
theorem cntB_set {occ : Nat → Bool} (q : Nat) : ∀ n, cntB (fun p => if p = q then true else occ p) n ≤ cntB occ n + (if q < n then 1 else 0)
  | 0 => by show 0 ≤ _; omega
  | n + 1 => by
    have ih := cntB_set (occ := occ) q n
    unfold cntB
    by_cases e : n = q
    · subst e
      rw [if_pos rfl]
      rw [if_neg (Nat.lt_irrefl n)] at ih
      rw [if_pos (Nat.lt_succ_self n)]
      simp only [if_true]
      omega
    · rw [if_neg e]
      by_cases c : q < n
      · rw [if_pos c] at ih
        rw [if_pos (show q < n + 1 by omega)]
        omega
      · rw [if_neg c] at ih
        rw [if_neg (show ¬ q < n + 1 by omega)]
        omega
def tabI (Z : Nat) (H : Int64 → Nat) (occ : Nat → Bool) (key : Nat → Int64) (ld : Nat → Nat) (S : Int64 → Option Nat) (n : Nat) : Prop :=
  (∀ p, p < Z → occ p = true → S (key p) = some (ld p)) ∧ (∀ k l, S k = some l → ∃ d, d < Z ∧ occ ((H k + d) % Z) = true ∧ key ((H k + d) % Z) = k ∧ ∀ e, e < d → occ ((H k + e) % Z) = true) ∧ cntB occ Z ≤ n
/-- where a key is, or would be: so far behind its own place -/
def prob (Z : Nat) (H : Int64 → Nat) (occ : Nat → Bool) (key : Nat → Int64) (k : Int64) (d : Nat) : Prop :=
  d < Z ∧ (∀ e, e < d → occ ((H k + e) % Z) = true ∧ ¬ key ((H k + e) % Z) = k) ∧ (occ ((H k + d) % Z) = true → key ((H k + d) % Z) = k)
theorem tab_probe {Z : Nat} {H : Int64 → Nat} {occ : Nat → Bool} {key : Nat → Int64} {ld : Nat → Nat} {S : Int64 → Option Nat} {n : Nat} (t : tabI Z H occ key ld S n) (hn : n < Z) (k : Int64) (hk : H k < Z) : ∃ d, prob Z H occ key k d ∧ (occ ((H k + d) % Z) = true → S k = some (ld ((H k + d) % Z))) ∧ (occ ((H k + d) % Z) = false → S k = none) := by
  obtain ⟨t1, t2, t3⟩ := t
  have hopen : ∃ q, q < Z ∧ occ q = false := by
    rcases Classical.em (∃ q, q < Z ∧ occ q = false) with q | q
    · exact q
    · have : cntB occ Z = Z := cntB_all Z (fun p hp => by
        cases hb : occ p with
        | true => rfl
        | false => exact absurd ⟨p, hp, hb⟩ q)
      omega
  obtain ⟨q, hq, oq⟩ := hopen
  have hat : ∃ d, d < Z ∧ (H k + d) % Z = q := by
    rcases Nat.lt_or_ge q (H k) with c | c
    · refine ⟨q + Z - H k, by omega, ?_⟩
      rw [show H k + (q + Z - H k) = q + Z from by omega, Nat.add_mod_right, Nat.mod_eq_of_lt hq]
    · refine ⟨q - H k, by omega, ?_⟩
      rw [show H k + (q - H k) = q from by omega, Nat.mod_eq_of_lt hq]
  obtain ⟨d0, hd0, e0⟩ := hat
  obtain ⟨d, hd, hmin⟩ := isMin_ex (P := fun d => occ ((H k + d) % Z) = false ∨ key ((H k + d) % Z) = k) d0 ⟨d0, Or.inl (by rw [e0]; exact oq), Nat.le_refl _⟩
  have hdz : d ≤ d0 := hmin d0 (Or.inl (by rw [e0]; exact oq))
  have hlt : ∀ e, e < d → occ ((H k + e) % Z) = true ∧ ¬ key ((H k + e) % Z) = k := fun e he => by
    refine ⟨?_, fun q => ?_⟩
    · cases hb : occ ((H k + e) % Z) with
      | true => rfl
      | false => have := hmin e (Or.inl hb); omega
    · have := hmin e (Or.inr q); omega
  have hky : occ ((H k + d) % Z) = true → key ((H k + d) % Z) = k := fun ho => by
    rcases hd with q | q
    · rw [ho] at q; exact absurd q (by decide)
    · exact q
  refine ⟨d, ⟨by omega, hlt, hky⟩, fun ho => ?_, fun ho => ?_⟩
  · have := t1 _ (Nat.mod_lt _ (by omega)) ho
    rw [hky ho] at this
    exact this
  · cases hs : S k with
    | none => rfl
    | some l =>
      obtain ⟨d', h1, h2, h3, h4⟩ := t2 k l hs
      have := hmin d' (Or.inr h3)
      rcases Nat.lt_or_ge d d' with c | c
      · rw [h4 d c] at ho; exact absurd ho (by decide)
      · have : d' = d := by omega
        rw [this, ho] at h2
        exact absurd h2 (by decide)
def setS (S : Int64 → Option Nat) (k : Int64) (l : Nat) : Int64 → Option Nat := fun k' => if k' = k then some l else S k'
theorem tab_insert {Z : Nat} {H : Int64 → Nat} {occ : Nat → Bool} {key : Nat → Int64} {ld : Nat → Nat} {S : Int64 → Option Nat} {n : Nat} (t : tabI Z H occ key ld S n) {k : Int64} {d l : Nat} (p : prob Z H occ key k d) (ho : occ ((H k + d) % Z) = false) (hs : S k = none) : tabI Z H (fun p => if p = (H k + d) % Z then true else occ p) (fun p => if p = (H k + d) % Z then k else key p) (fun p => if p = (H k + d) % Z then l else ld p) (setS S k l) (n + 1) := by
  obtain ⟨t1, t2, t3⟩ := t
  have hZ : 0 < Z := by have := p.1; omega
  refine ⟨fun q hq hoq => ?_, fun k' l' hs' => ?_, ?_⟩
  · by_cases e : q = (H k + d) % Z
    · show setS S k l (if q = (H k + d) % Z then k else key q) = some (if q = (H k + d) % Z then l else ld q)
      rw [if_pos e, if_pos e]
      unfold setS
      rw [if_pos rfl]
    · show setS S k l (if q = (H k + d) % Z then k else key q) = some (if q = (H k + d) % Z then l else ld q)
      have hoq : (if q = (H k + d) % Z then true else occ q) = true := hoq
      rw [if_neg e] at hoq
      rw [if_neg e, if_neg e]
      have := t1 q hq hoq
      unfold setS
      rw [if_neg (fun c => by rw [c, hs] at this; exact absurd this (by simp))]
      exact this
  · by_cases e : k' = k
    · subst e
      unfold setS at hs'
      rw [if_pos rfl] at hs'
      refine ⟨d, p.1, if_pos rfl, if_pos rfl, fun e he => ?_⟩
      show (if _ then true else _) = true
      rw [(p.2.1 e he).1]
      split <;> rfl
    · unfold setS at hs'
      rw [if_neg e] at hs'
      obtain ⟨d', h1, h2, h3, h4⟩ := t2 k' l' hs'
      have ne : ¬ (H k' + d') % Z = (H k + d) % Z := fun c => by rw [c, ho] at h2; exact absurd h2 (by decide)
      refine ⟨d', h1, ?_, ?_, fun e he => ?_⟩
      · show (if _ then true else _) = true
        rw [if_neg ne]; exact h2
      · show (if _ then k else _) = k'
        rw [if_neg ne]; exact h3
      · show (if _ then true else _) = true
        rw [h4 e he]
        split <;> rfl
  · have := cntB_set (occ := occ) ((H k + d) % Z) Z
    rw [if_pos (Nat.mod_lt _ hZ)] at this
    exact Nat.le_trans this (by omega)
theorem tab_empty {Z : Nat} {H : Int64 → Nat} {occ : Nat → Bool} {key : Nat → Int64} {ld : Nat → Nat} (h : ∀ p, p < Z → occ p = false) : tabI Z H occ key ld (fun _ => none) 0 :=
  ⟨fun p hp ho => by rw [h p hp] at ho; exact absurd ho (by decide), fun k l hs => absurd hs (by simp), by rw [cntB_none Z h]; exact Nat.le_refl 0⟩
/-! masks -/
theorem mask_bv : ∀ z, z ≤ 14 → (nI (2 ^ z) - 1).toBitVec.toNat = 2 ^ z - 1 := by decide
theorem and_mask (x : Int32) {z : Nat} (hz : z ≤ 14) : x &&& (nI (2 ^ z) - 1) = nI (x.toBitVec.toNat % 2 ^ z) := by
  have hlt : x.toBitVec.toNat % 2 ^ z < 2 ^ z := Nat.mod_lt _ (Nat.pow_pos (by decide))
  have hle : 2 ^ z ≤ 16384 := Nat.pow_le_pow_right (n := 2) (by decide) hz
  apply Int32.toBitVec_inj.mp
  apply BitVec.eq_of_toNat_eq
  rw [Int32.toBitVec_and, BitVec.toNat_and, mask_bv z hz, nI_bv (by omega)]
  exact Nat.and_two_pow_sub_one_eq_mod _ _
def cH (z : Nat) (k : Int64) : Nat := ((lushr (k * (-7046029254386353131)) 48).toInt32).toBitVec.toNat % 2 ^ z
theorem cH_lt (z : Nat) (k : Int64) : cH z k < 2 ^ z := Nat.mod_lt _ (Nat.pow_pos (by decide))
def mH (k : Int64) : Nat := ((lushr (k * 2654435761) 13) ^^^ k).toBitVec.toNat % 32768
theorem mH_lt (k : Int64) : mH k < 32768 := Nat.mod_lt _ (by decide)
theorem andL_mask (x : Int64) : (x &&& 32767).toInt32 = nI (x.toBitVec.toNat % 32768) := by
  have hlt : x.toBitVec.toNat % 32768 < 32768 := Nat.mod_lt _ (by decide)
  have e : (x &&& 32767).toBitVec.toNat = x.toBitVec.toNat % 32768 := by
    rw [Int64.toBitVec_and, BitVec.toNat_and, show (32767 : Int64).toBitVec.toNat = 2 ^ 15 - 1 from rfl]
    exact Nat.and_two_pow_sub_one_eq_mod _ _
  have e2 : (x &&& 32767).toInt = ((x.toBitVec.toNat % 32768 : Nat) : Int) := by
    show (x &&& 32767).toBitVec.toInt = _
    rw [BitVec.toInt_eq_toNat_of_lt (by rw [e]; omega), e]
  refine t_eq.mpr ?_
  rw [Int64.toInt_toInt32, e2, bm32 (by omega) (by omega), n_toInt (by omega)]
/-! the class's table -/
def cTab (z : Nat) (h : hp) (S : Int64 → Option Nat) (n : Nat) : Prop := gI h 68 2 = nI (2 ^ z) ∧ tabI (2 ^ z) (cH z) (fun p => decide (¬ gI h 70 p = 0)) (gL h 69) (fun p => (gI h 70 p).toInt.toNat - 1) S n ∧ ∀ p, p < 2 ^ z → 0 ≤ (gI h 70 p).toInt
def tScr (a _j : Nat) : Prop := a = 68 ∨ a = 69 ∨ a = 70
theorem tScr_c : ∀ a j, tScr a j → cScr a j := fun a j h => by unfold tScr at h; unfold cScr; omega
theorem c_leaderOf {z : Nat} {h : hp} {S : Int64 → Option Nat} {n one : Nat} {k : Int64} {Q : Int32 → hp → Prop} (hz : z ≤ 14) (a : cTab z h S n) (hn : n < 2 ^ z) (ho : one < 1000000) (hq1 : ∀ l, S k = some l → Q (nI l) h) (hq0 : ∀ h1, S k = none → cTab z h1 (setS S k one) (n + 1) → eqE tScr h h1 → Q (nI one) h1) : w_X4_leaderOf h k (nI one) Q := by
  obtain ⟨a1, a2, a3⟩ := a
  have hZ : 2 ^ z ≤ 16384 := Nat.pow_le_pow_right (n := 2) (by decide) hz
  have hZ0 : 0 < 2 ^ z := Nat.pow_pos (by decide)
  obtain ⟨d, hd, hs1, hs0⟩ := tab_probe a2 hn k (cH_lt z k)
  unfold w_X4_leaderOf w_X4_leaderOf_0
  intro y ey
  rw [a1, and_mask _ hz] at ey
  have ey : y = nI (cH z k) := ey
  subst ey
  unfold w_X4_leaderOf_21
  intro X hX
  have key : ∀ m e : Nat, m + e = d → X (nI ((cH z k + e) % 2 ^ z), nI e) := by
    intro m
    induction m with
    | zero =>
      intro e he
      have ee : e = d := by omega
      subst ee
      have hp : (cH z k + e) % 2 ^ z < 2 ^ z := Nat.mod_lt _ hZ0
      generalize hP : (cH z k + e) % 2 ^ z = p at hp
      have hin : vp_in (nI p) 16384 := in_n (by omega) (by omega)
      apply hX
      refine ⟨fun c => absurd c ?_, fun _ => ⟨hin, fun c => ⟨hin, fun c2 => absurd ?_ c2, fun c2 => ⟨hin, ?_⟩⟩, fun c => ⟨hin, fun h7 e7 => ⟨hin, fun h8 e8 => ?_⟩⟩⟩⟩
      · show ¬ gI h 68 2 ≤ nI e
        rw [a1]
        exact nI_ge hd.1 (by omega)
      · have c : ¬ gI h 70 (ix (nI p)) = 0 := c
        rw [ix_n (by omega)] at c
        show gL h 69 (ix (nI p)) = k
        rw [ix_n (by omega), ← hP]
        rw [← hP] at c
        exact hd.2.2 (decide_eq_true c)
      · have c : ¬ gI h 70 (ix (nI p)) = 0 := c
        rw [ix_n (by omega)] at c
        show Q (gI h 70 (ix (nI p)) - 1) h
        rw [ix_n (by omega)]
        have hpos := a3 p hp
        have hne : ¬ (gI h 70 p).toInt = 0 := fun q => c (t_eq.mpr q)
        have e1 : (1 : Int32).toInt = 1 := rfl
        have hhi := b_hi (gI h 70 p)
        have : gI h 70 p - 1 = nI ((gI h 70 p).toInt.toNat - 1) := t_eq.mpr (by
          rw [t_sub (by rw [e1]; omega) (by rw [e1]; omega), e1, n_toInt (by omega)]
          omega)
        rw [this]
        have := hs1 (by rw [hP]; exact decide_eq_true c)
        rw [hP] at this
        exact hq1 _ this
      · have c : gI h 70 (ix (nI p)) = 0 := c
        have e7 : h7 = sI h 70 (ix (nI p)) (nI one + 1) := e7
        have e8 : h8 = sL h7 69 (ix (nI p)) k := e8
        rw [ix_n (by omega)] at c e7 e8
        rw [← nI_succ] at e7
        subst e7
        have hof : (fun p => decide (¬ gI h 70 p = 0)) ((cH z k + e) % 2 ^ z) = false := by
          rw [hP]; exact decide_eq_false (fun q => q c)
        have hsn := hs0 hof
        have t := tab_insert (l := one) a2 hd hof hsn
        rw [hP] at t
        subst e8
        refine hq0 _ hsn ⟨a1, ?_, fun q hq => ?_⟩ (eqE_sL (eqE_sI (eqE_refl h) (Or.inr (Or.inr rfl))) (Or.inr (Or.inl rfl)))
        · have f1 : (fun q => decide (¬ gI (sL (sI h 70 p (nI (one + 1))) 69 p k) 70 q = 0)) = (fun q => if q = p then true else decide (¬ gI h 70 q = 0)) := by
            funext q
            rw [gI_sL, gI_sI]
            by_cases c2 : q = p
            · rw [if_pos ⟨rfl, c2⟩, if_pos c2]
              exact decide_eq_true (nI_ne0 (by omega) (by omega))
            · rw [if_neg (fun w => c2 w.2), if_neg c2]
          have f2 : gL (sL (sI h 70 p (nI (one + 1))) 69 p k) 69 = (fun q => if q = p then k else gL h 69 q) := by
            funext q
            rw [gL_sL, gL_sI]
            by_cases c2 : q = p
            · rw [if_pos ⟨rfl, c2⟩, if_pos c2]
            · rw [if_neg (fun w => c2 w.2), if_neg c2]
          have f3 : (fun q => (gI (sL (sI h 70 p (nI (one + 1))) 69 p k) 70 q).toInt.toNat - 1) = (fun q => if q = p then one else (gI h 70 q).toInt.toNat - 1) := by
            funext q
            rw [gI_sL, gI_sI]
            by_cases c2 : q = p
            · rw [if_pos ⟨rfl, c2⟩, if_pos c2, n_toInt (by omega)]
              omega
            · rw [if_neg (fun w => c2 w.2), if_neg c2]
          rw [f1, f2, f3]
          exact t
        · rw [gI_sL, gI_sI]
          by_cases c2 : q = p
          · rw [if_pos ⟨rfl, c2⟩, n_toInt (by omega)]; omega
          · rw [if_neg (fun w => c2 w.2)]; exact a3 q hq
    | succ m ih =>
      intro e he
      have hp : (cH z k + e) % 2 ^ z < 2 ^ z := Nat.mod_lt _ hZ0
      obtain ⟨h1, h2⟩ := hd.2.1 e (by omega)
      have nxt := ih (e + 1) (by omega)
      have emod : (cH z k + (e + 1)) % 2 ^ z = ((cH z k + e) % 2 ^ z + 1) % 2 ^ z := by rw [Nat.mod_add_mod, Nat.add_assoc]
      rw [emod] at nxt
      generalize (cH z k + e) % 2 ^ z = p at hp h1 h2 nxt
      have h1 : ¬ gI h 70 p = 0 := of_decide_eq_true h1
      have hin : vp_in (nI p) 16384 := in_n (by omega) (by omega)
      have hdz := hd.1
      apply hX
      refine ⟨fun c => absurd c ?_, fun _ => ⟨hin, fun c => ⟨hin, fun c2 x ex u eu => ?_, fun c2 => absurd ?_ h2⟩, fun c => absurd ?_ h1⟩⟩
      · show ¬ gI h 68 2 ≤ nI e
        rw [a1]
        exact nI_ge (by omega) (by omega)
      · have ex : x = (nI p + 1) &&& (gI h 68 2 - 1) := ex
        have eu : u = nI e + 1 := eu
        rw [a1, and_mask _ hz, ← nI_succ, nI_bv (by omega)] at ex
        rw [← nI_succ] at eu
        subst ex eu
        exact nxt
      · have c2 : gL h 69 (ix (nI p)) = k := c2
        rw [ix_n (by omega)] at c2
        exact c2
      · have c : gI h 70 (ix (nI p)) = 0 := c
        rw [ix_n (by omega)] at c
        exact c
  have := key d 0 (by omega)
  rw [Nat.add_zero, Nat.mod_eq_of_lt (cH_lt z k)] at this
  exact this
/-! the reference's table -/
def mTab (h : hp) (S : Int64 → Option Nat) (n : Nat) : Prop := tabI 32768 mH (fun p => decide (¬ gI h 35 p = -1)) (gL h 34) (fun p => (gI h 35 p).toInt.toNat) S n ∧ ∀ p, p < 32768 → gI h 35 p = -1 ∨ 0 ≤ (gI h 35 p).toInt
theorem m_keyAt {h : hp} {S : Int64 → Option Nat} {n one : Nat} {k : Int64} {Q : Int32 → hp → Prop} (a : mTab h S n) (hn : n < 32768) (ho : one < 1000000) (hq1 : ∀ p l, p < 32768 → S k = some l → ¬ gI h 35 p = -1 → gI h 35 p = nI l → gL h 34 p = k → Q (nI p) h) (hq0 : ∀ p, p < 32768 → S k = none → gI h 35 p = -1 → mTab (sL (sI h 35 p (nI one)) 34 p k) (setS S k one) (n + 1) → Q (nI p) (sL (sI h 35 p (nI one)) 34 p k)) : w_X12_keyAt h k (nI one) Q := by
  obtain ⟨a2, a3⟩ := a
  obtain ⟨d, hd, hs1, hs0⟩ := tab_probe a2 hn k (mH_lt k)
  unfold w_X12_keyAt w_X12_keyAt_0
  intro y ey
  rw [andL_mask] at ey
  have ey : y = nI (mH k) := ey
  subst ey
  unfold w_X12_keyAt_17
  intro X hX
  have key : ∀ m e : Nat, m + e = d → X (nI ((mH k + e) % 32768)) := by
    intro m
    induction m with
    | zero =>
      intro e he
      have ee : e = d := by omega
      subst ee
      have hp : (mH k + e) % 32768 < 32768 := Nat.mod_lt _ (by decide)
      generalize hP : (mH k + e) % 32768 = p at hp
      have hin : vp_in (nI p) 32768 := in_n (by omega) (by omega)
      have fin : (gL h 34 p = k ∨ gI h 35 p = -1) → w_X12_keyAt_52 Q k (nI one) (nI p) h := by
        intro hor
        unfold w_X12_keyAt_52
        rw [ix_n (by omega)]
        refine ⟨hin, fun c => ?_, fun c => ⟨hin, fun h6 e6 => ⟨hin, fun h7 e7 => ?_⟩⟩⟩
        · have hoc : (fun p => decide (¬ gI h 35 p = -1)) ((mH k + e) % 32768) = true := by rw [hP]; exact decide_eq_true c
          have hS := hs1 hoc
          rw [hP] at hS
          have hpos : 0 ≤ (gI h 35 p).toInt := by
            rcases a3 p hp with q | q
            · exact absurd q c
            · exact q
          refine hq1 p _ hp hS c (n_of hpos).1 ?_
          rcases hor with q | q
          · exact q
          · exact absurd q c
        · have hof : (fun p => decide (¬ gI h 35 p = -1)) ((mH k + e) % 32768) = false := by rw [hP]; exact decide_eq_false (fun q => q c)
          have hsn := hs0 hof
          have t := tab_insert (l := one) a2 hd hof hsn
          rw [hP] at t
          subst e6 e7
          refine hq0 p hp hsn c ⟨?_, fun q hq => ?_⟩
          · have f1 : (fun q => decide (¬ gI (sL (sI h 35 p (nI one)) 34 p k) 35 q = -1)) = (fun q => if q = p then true else decide (¬ gI h 35 q = -1)) := by
              funext q
              rw [gI_sL, gI_sI]
              by_cases c2 : q = p
              · rw [if_pos ⟨rfl, c2⟩, if_pos c2]
                refine decide_eq_true (fun w => ?_)
                have := congrArg Int32.toInt w
                rw [n_toInt (by omega), show (-1 : Int32).toInt = -1 from rfl] at this
                omega
              · rw [if_neg (fun w => c2 w.2), if_neg c2]
            have f2 : gL (sL (sI h 35 p (nI one)) 34 p k) 34 = (fun q => if q = p then k else gL h 34 q) := by
              funext q
              rw [gL_sL, gL_sI]
              by_cases c2 : q = p
              · rw [if_pos ⟨rfl, c2⟩, if_pos c2]
              · rw [if_neg (fun w => c2 w.2), if_neg c2]
            have f3 : (fun q => (gI (sL (sI h 35 p (nI one)) 34 p k) 35 q).toInt.toNat) = (fun q => if q = p then one else (gI h 35 q).toInt.toNat) := by
              funext q
              rw [gI_sL, gI_sI]
              by_cases c2 : q = p
              · rw [if_pos ⟨rfl, c2⟩, if_pos c2, n_toInt (by omega)]
                omega
              · rw [if_neg (fun w => c2 w.2), if_neg c2]
            rw [f1, f2, f3]
            exact t
          · rw [gI_sL, gI_sI]
            by_cases c2 : q = p
            · rw [if_pos ⟨rfl, c2⟩, n_toInt (by omega)]; exact Or.inr (by omega)
            · rw [if_neg (fun w => c2 w.2)]; exact a3 q hq
      apply hX
      unfold w_X12_keyAt_b17
      rw [ix_n (by omega)]
      refine ⟨hin, fun c => fin (Or.inr c), fun c => ⟨hin, fun c2 => fin (Or.inl c2), fun c2 => absurd ?_ c2⟩⟩
      have := hd.2.2 (by rw [hP]; exact decide_eq_true c)
      rw [hP] at this
      exact this
    | succ m ih =>
      intro e he
      have hp : (mH k + e) % 32768 < 32768 := Nat.mod_lt _ (by decide)
      obtain ⟨h1, h2⟩ := hd.2.1 e (by omega)
      have nxt := ih (e + 1) (by omega)
      have emod : (mH k + (e + 1)) % 32768 = ((mH k + e) % 32768 + 1) % 32768 := by rw [Nat.mod_add_mod, Nat.add_assoc]
      rw [emod] at nxt
      generalize (mH k + e) % 32768 = p at hp h1 h2 nxt
      have h1 : ¬ gI h 35 p = -1 := of_decide_eq_true h1
      have hin : vp_in (nI p) 32768 := in_n (by omega) (by omega)
      apply hX
      unfold w_X12_keyAt_b17
      rw [ix_n (by omega)]
      refine ⟨hin, fun c => absurd c h1, fun _ => ⟨hin, fun c2 => absurd c2 h2, fun _ x ex => ?_⟩⟩
      rw [← nI_succ, show (32768 : Int32) = nI 32768 from rfl, nI_rem (by omega) (by omega) (by omega)] at ex
      subst ex
      exact nxt
  have := key d 0 (by omega)
  rw [Nat.add_zero, Nat.mod_eq_of_lt (mH_lt k)] at this
  exact this
