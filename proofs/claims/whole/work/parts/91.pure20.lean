/-! figure -/
def fgF (b : Int64) (w : Nat) : Nat → Int32 → Int32 → Int64 → Int32
  | 0, pl, nu, r => if r ≤ 0 then (if w = 6 then pl else nu) else -2
  | n + 1, pl, nu, r => fgF b w n (if r ≤ 0 then pl else nI (6 - n)) (if 5 - n = w then (lrem r b).toInt32 else nu) (r / b)
abbrev isF (v : Int64) (b w : Int32) : Prop := (0 ≤ v.toInt ∧ v.toInt ≤ 1000000000000000000) ∧ (2 ≤ b.toInt ∧ b.toInt ≤ 9999) ∧ 0 ≤ w.toInt ∧ w.toInt ≤ 6
theorem b_ne0 {b : Int32} (hb : 2 ≤ b.toInt) : ¬ b.toInt64 = 0 := by
  rw [tL_eq, tL_int, show (0 : Int64).toInt = 0 from rfl]; omega
theorem c_figure {v : Int64} {b x : Int32} {Q : Int32 → Prop} (hq1 : isF v b x → Q (fgF b.toInt64 x.toInt.toNat 6 1 0 v)) (hq0 : ¬ isF v b x → Q (-1)) : w_X11_figure v b x Q := by
  unfold w_X11_figure w_X11_figure_0
  refine c_within (fun c1 => ⟨fun q => absurd q (by decide), fun _ => ?_⟩) (fun c1 => ⟨fun _ => hq0 (fun q => c1 q.1), fun q => absurd rfl q⟩)
  have c1 : 0 ≤ v.toInt ∧ v.toInt ≤ 1000000000000000000 := c1
  refine c_within (fun c2 => ⟨fun q => absurd q (by decide), fun _ => ?_⟩) (fun c2 => ⟨fun _ => hq0 (fun q => c2 (by rw [tL_int]; exact q.2.1)), fun q => absurd rfl q⟩)
  rw [tL_int] at c2
  have c2 : 2 ≤ b.toInt ∧ b.toInt ≤ 9999 := c2
  refine c_within (fun c3 => ⟨fun _ => ?_, fun q => absurd q (by decide)⟩) (fun c3 => ⟨fun q => absurd rfl q, fun _ => hq0 (fun q => c3 (by rw [tL_int]; exact q.2.2))⟩)
  rw [tL_int] at c3
  have c3 : 0 ≤ x.toInt ∧ x.toInt ≤ 6 := c3
  have hq := hq1 ⟨c1, c2, c3⟩
  obtain ⟨ex, hx⟩ := n_of c3.1
  have hw : x.toInt.toNat ≤ 6 := by omega
  generalize x.toInt.toNat = w at ex hx hw hq
  subst ex
  have hb := b_ne0 c2.1
  unfold w_X11_figure_52
  intro X hX
  have key : ∀ (n : Nat) (pl nu : Int32) (r : Int64), n ≤ 6 → Q (fgF b.toInt64 w n pl nu r) → X (pl, nu, r, nI (6 - n)) := by
    intro n
    induction n with
    | zero =>
      intro pl nu r _ hq
      apply hX
      unfold fgF at hq
      refine ⟨fun _ => ⟨fun c => ?_, fun c => ?_⟩, fun c => absurd (show (6 : Int32) ≤ nI 6 by decide) c⟩
      · have c : r ≤ 0 := c
        rw [if_pos c] at hq
        have e6 : nI w = 6 ↔ w = 6 := nI_eq (a := w) (b := 6) (by omega) (by omega)
        refine ⟨fun c4 => ?_, fun c4 => ?_⟩
        · rw [if_neg (fun q => c4 (e6.mpr q))] at hq; exact hq
        · rw [if_pos (e6.mp c4)] at hq; exact hq
      · have c : ¬ r ≤ 0 := c
        rw [if_neg c] at hq
        exact hq
    | succ n ih =>
      intro pl nu r hn hq
      unfold fgF at hq
      apply hX
      have st : ∀ pl2, Q (fgF b.toInt64 w n pl2 (if 5 - n = w then (lrem r b.toInt64).toInt32 else nu) (r / b.toInt64)) → w_X11_figure_72 Q X b (nI w) pl2 nu r (nI (6 - (n + 1))) := by
        intro pl2 hq
        unfold w_X11_figure_72
        have e : nI (6 - (n + 1)) = nI w ↔ 5 - n = w := by
          rw [show 6 - (n + 1) = 5 - n from by omega]
          exact nI_eq (by omega) (by omega)
        have st2 : ∀ nu2, Q (fgF b.toInt64 w n pl2 nu2 (r / b.toInt64)) → w_X11_figure_87 Q X b (nI w) pl2 nu2 r (nI (6 - (n + 1))) := by
          intro nu2 hq
          refine ⟨hb, fun y ey z ez => ?_⟩
          rw [← nI_succ, show 6 - (n + 1) + 1 = 6 - n from by omega] at ez
          subst ey ez
          exact ih _ _ _ (by omega) hq
        refine ⟨fun c => st2 nu ?_, fun c => ⟨hb, fun y ey => st2 y ?_⟩⟩
        · rw [if_neg (fun q => c (e.mpr q))] at hq; exact hq
        · rw [if_pos (e.mp c)] at hq; subst ey; exact hq
      refine ⟨fun c => absurd c (nI_ge (b := 6) (by omega) (by omega)), fun _ => ⟨fun c => ?_, fun c y ey => ?_⟩⟩
      · have c : r ≤ 0 := c
        rw [if_pos c] at hq
        exact st _ hq
      · have c : ¬ r ≤ 0 := c
        rw [if_neg c] at hq
        have ey : y = nI (6 - (n + 1)) + 1 := ey
        rw [← nI_succ, show 6 - (n + 1) + 1 = 6 - n from by omega] at ey
        subst ey
        exact st _ hq
  exact key 6 1 0 v (Nat.le_refl _) hq
theorem lrem_0 {b : Int64} (hb : 0 < b.toInt) : (lrem 0 b).toInt32 = 0 := by
  have h := (l_rem (x := 0) hb).1 (by decide)
  rw [show (0 : Int64).toInt = 0 from rfl, Int.zero_emod] at h
  have e : lrem 0 b = 0 := tL_eq.mpr h
  rw [e]; rfl
theorem div_0 {b : Int64} (hb : 0 < b.toInt) : (0 : Int64) / b = 0 := by
  have h := (tL_div (x := 0) hb).1 (by decide)
  rw [show (0 : Int64).toInt = 0 from rfl, Int.zero_ediv] at h
  exact tL_eq.mpr h
theorem fgF_0 {b : Int64} {w : Nat} (hb : 0 < b.toInt) : ∀ (n : Nat) (pl nu : Int32), n ≤ 6 → (5 - n < w ∨ n = 0 ∨ w + n < 6 ∨ nu = 0) → (w + n < 6 ∨ w = 6 ∨ n = 0 ∨ nu = 0) → fgF b w n pl nu 0 = if w = 6 then pl else nu
  | 0, pl, nu, _, _, _ => by unfold fgF; rw [if_pos (Int64.le_refl 0)]
  | n + 1, pl, nu, hn, _, h2 => by
    unfold fgF
    rw [if_pos (Int64.le_refl 0), lrem_0 hb, div_0 hb]
    by_cases c : 5 - n = w
    · have h0 : nu = 0 := by
        rcases h2 with q | q | q | q
        · omega
        · omega
        · omega
        · exact q
      rw [if_pos c, fgF_0 hb n pl 0 (by omega) (Or.inr (Or.inr (Or.inr rfl))) (Or.inr (Or.inr (Or.inr rfl))), h0]
    · rw [if_neg c]
      refine fgF_0 hb n pl nu (by omega) ?_ ?_
      · rcases h2 with q | q | q | q
        · exact Or.inr (Or.inr (Or.inl (by omega)))
        · exact Or.inl (by omega)
        · omega
        · exact Or.inr (Or.inr (Or.inr q))
      · rcases h2 with q | q | q | q
        · exact Or.inl (by omega)
        · exact Or.inr (Or.inl q)
        · omega
        · exact Or.inr (Or.inr (Or.inr q))
theorem m_figure {v : Int64} {b x : Int32} {Q : Int32 → Prop} (hq1 : isF v b x → Q (fgF b.toInt64 x.toInt.toNat 6 1 0 v)) (hq0 : ¬ isF v b x → Q (-1)) : w_X12_figure v b x Q := by
  unfold w_X12_figure w_X12_figure_0
  refine m_in (fun c1 => ⟨fun q => absurd q (by decide), fun _ => ?_⟩) (fun c1 => ⟨fun _ => hq0 (fun q => c1 q.1), fun q => absurd rfl q⟩)
  have c1 : 0 ≤ v.toInt ∧ v.toInt ≤ 1000000000000000000 := c1
  refine m_in (fun c2 => ⟨fun q => absurd q (by decide), fun _ => ?_⟩) (fun c2 => ⟨fun _ => hq0 (fun q => c2 (by rw [tL_int]; exact q.2.1)), fun q => absurd rfl q⟩)
  rw [tL_int] at c2
  have c2 : 2 ≤ b.toInt ∧ b.toInt ≤ 9999 := c2
  refine m_in (fun c3 => ⟨fun _ => ?_, fun q => absurd q (by decide)⟩) (fun c3 => ⟨fun q => absurd rfl q, fun _ => hq0 (fun q => c3 (by rw [tL_int]; exact q.2.2))⟩)
  rw [tL_int] at c3
  have c3 : 0 ≤ x.toInt ∧ x.toInt ≤ 6 := c3
  have hq := hq1 ⟨c1, c2, c3⟩
  obtain ⟨ex, hx⟩ := n_of c3.1
  have hw : x.toInt.toNat ≤ 6 := by omega
  generalize x.toInt.toNat = w at ex hx hw hq
  subst ex
  have hb := b_ne0 c2.1
  have hbp : 0 < b.toInt64.toInt := by rw [tL_int]; omega
  have z0 : (0 : Int64).toInt = 0 := rfl
  have e6 : nI w = 6 ↔ w = 6 := nI_eq (a := w) (b := 6) (by omega) (by omega)
  unfold w_X12_figure_49
  intro X hX
  -- with n places left; what the other side calls places is pl
  have key : ∀ (n : Nat) (pl nu : Int32) (r : Int64), n ≤ 6 → 0 ≤ r.toInt → (n = 6 ∧ pl = 1 ∨ n < 6 ∧ pl = nI (6 - n)) → (n = 0 → r = 0) → (w + n < 6 ∨ w = 6 ∨ nu = 0) → Q (fgF b.toInt64 w n pl nu r) → X (nI (6 - n), nu, r) := by
    intro n
    induction n with
    | zero =>
      intro pl nu r _ _ hpl hr0 hnu hq
      have er := hr0 rfl
      subst er
      unfold fgF at hq
      rw [if_pos (Int64.le_refl 0)] at hq
      rcases hpl with q | q
      · omega
      have epl := q.2
      apply hX
      refine ⟨fun c => absurd (show nI (6 - 0) = 0 from c) (by decide), fun _ => ⟨fun _ => ⟨fun c4 => ?_, fun c4 => ?_⟩, fun c => absurd (Int64.le_refl 0) c⟩⟩
      · rw [if_neg (fun q => c4 (e6.mpr q))] at hq; exact hq
      · rw [if_pos (e6.mp c4)] at hq; rw [epl] at hq; exact hq
    | succ n ih =>
      intro pl nu r hn hr hpl _ hnu hq
      have go : (n = 5 ∨ ¬ r ≤ 0) → w_X12_figure_61 Q X b (nI w) (nI (6 - (n + 1))) nu r := by
        intro hgo
        have hr2 : 0 ≤ (r / b.toInt64).toInt := by
          rw [(tL_div hbp).1 hr]
          exact Int.ediv_nonneg hr (by omega)
        have epl : (if r ≤ 0 then pl else nI (6 - n)) = nI (6 - n) := by
          by_cases c : r ≤ 0
          · rw [if_pos c]
            rcases hgo with q | q
            · rcases hpl with q2 | q2
              · rw [q2.2, q]; rfl
              · omega
            · exact absurd c q
          · rw [if_neg c]
        unfold fgF at hq
        rw [epl] at hq
        have st2 : ∀ nu2, (w + n < 6 ∨ w = 6 ∨ nu2 = 0) → Q (fgF b.toInt64 w n (nI (6 - n)) nu2 (r / b.toInt64)) → w_X12_figure_76 Q X b (nI w) (nI (6 - (n + 1))) nu2 r := by
          intro nu2 hn2 hq
          refine ⟨hb, fun y ey z ez => ?_⟩
          rw [← nI_succ, show 6 - (n + 1) + 1 = 6 - n from by omega] at ez
          subst ey ez
          have e66 : nI (6 - n) = 6 ↔ n = 0 := by
            have := nI_eq (a := 6 - n) (b := 6) (by omega) (by omega)
            exact ⟨fun q => by have := this.mp q; omega, fun q => this.mpr (by omega)⟩
          refine ⟨fun c => ih _ _ _ (by omega) hr2 (Or.inr ⟨by omega, rfl⟩) (fun q => absurd (e66.mpr q) c) hn2 hq, fun c => ⟨fun c5 => ?_, fun c5 => ?_⟩⟩
          · refine ih _ _ _ (by omega) hr2 (Or.inr ⟨by omega, rfl⟩) (fun _ => ?_) hn2 hq
            rw [tL_le, z0] at c5
            exact tL_eq.mpr (by rw [z0]; omega)
          · have en := e66.mp c
            subst en
            unfold fgF at hq
            rw [if_neg c5] at hq
            exact hq
        unfold w_X12_figure_61
        have e : nI (6 - (n + 1)) = nI w ↔ 5 - n = w := by
          rw [show 6 - (n + 1) = 5 - n from by omega]
          exact nI_eq (by omega) (by omega)
        refine ⟨fun c => st2 nu ?_ ?_, fun c => ⟨hb, fun y ey => st2 y ?_ ?_⟩⟩
        · rcases hnu with q | q | q
          · exact Or.inl (by omega)
          · exact Or.inr (Or.inl q)
          · exact Or.inr (Or.inr q)
        · rw [if_neg (fun q => c (e.mpr q))] at hq; exact hq
        · exact Or.inl (by have := e.mp c; omega)
        · rw [if_pos (e.mp c)] at hq; subst ey; exact hq
      apply hX
      refine ⟨fun c => go (Or.inl ?_), fun c => ⟨fun c2 => ?_, fun c2 => go (Or.inr c2)⟩⟩
      · have c : nI (6 - (n + 1)) = 0 := c
        have := (nI_eq (a := 6 - (n + 1)) (b := 0) (by omega) (by omega)).mp c
        omega
      · have c : ¬ nI (6 - (n + 1)) = 0 := c
        have c2 : r ≤ 0 := c2
        have er : r = 0 := by
          rw [tL_le, z0] at c2
          exact tL_eq.mpr (by rw [z0]; omega)
        subst er
        have hn5 : ¬ n = 5 := fun q => c (by rw [q]; rfl)
        have epl : pl = nI (6 - (n + 1)) := by
          rcases hpl with q | q
          · omega
          · exact q.2
        rw [fgF_0 hbp (n + 1) pl nu hn (by
            rcases hnu with q | q | q
            · exact Or.inr (Or.inr (Or.inl (by omega)))
            · exact Or.inl (by omega)
            · exact Or.inr (Or.inr (Or.inr q))) (by
            rcases hnu with q | q | q
            · exact Or.inl (by omega)
            · exact Or.inr (Or.inl q)
            · exact Or.inr (Or.inr (Or.inr q)))] at hq
        refine ⟨fun c4 => ?_, fun c4 => ?_⟩
        · rw [if_neg (fun q => c4 (e6.mpr q))] at hq; exact hq
        · rw [if_pos (e6.mp c4), epl] at hq; exact hq
  exact key 6 1 0 v (Nat.le_refl _) c1.1 (Or.inl ⟨rfl, rfl⟩) (fun q => by omega) (Or.inr (Or.inr rfl)) hq
/-! shifts -/
theorem sh_amt : ∀ k, k < 31 → ((nI k &&& 31).toBitVec.smod 32#32).toNat = k := by decide
theorem shl1 : ∀ k, k < 31 → jshl 1 (nI k) = nI (2 ^ k) := by decide
theorem nI_bv {a : Nat} (ha : a < 2147483648) : (nI a).toBitVec.toNat = a := by
  show (BitVec.ofNat 32 a).toNat = a
  rw [BitVec.toNat_ofNat]
  omega
theorem jshr_n {a k : Nat} (ha : a < 2147483648) (hk : k < 31) : jshr (nI a) (nI k) = nI (a / 2 ^ k) := by
  have hle : a / 2 ^ k ≤ a := Nat.div_le_self _ _
  refine t_eq.mpr ?_
  rw [n_toInt (n := a / 2 ^ k) (by omega)]
  have e1 : (jshr (nI a) (nI k)).toBitVec = (nI a).toBitVec.sshiftRight k := by
    show (nI a).toBitVec.sshiftRight ((nI k &&& 31).toBitVec.smod 32#32).toNat = _
    rw [sh_amt k hk]
  show (jshr (nI a) (nI k)).toBitVec.toInt = _
  rw [e1, BitVec.toInt_sshiftRight]
  show (nI a).toInt >>> k = _
  rw [n_toInt ha, Int.shiftRight_eq_div_pow]
  rfl
theorem and1_n {a : Nat} (ha : a < 2147483648) : nI a &&& 1 = nI (a % 2) := by
  apply Int32.toBitVec_inj.mp
  apply BitVec.eq_of_toNat_eq
  rw [Int32.toBitVec_and, BitVec.toNat_and, nI_bv ha, nI_bv (by omega)]
  show a &&& 1 = a % 2
  exact Nat.and_one_is_mod a
theorem bit_n {a k : Nat} (ha : a < 2147483648) (hk : k < 31) : jshr (nI a) (nI k) &&& 1 = nI (a / 2 ^ k % 2) := by
  have hle : a / 2 ^ k ≤ a := Nat.div_le_self _ _
  rw [jshr_n ha hk, and1_n (by omega)]
/-! counts and firsts -/
def cntF (p : Nat → Prop) [DecidablePred p] (M : Nat) : Nat → Nat → Nat
  | 0, acc => acc
  | n + 1, acc => cntF p M n (if p (M - (n + 1)) then acc + 1 else acc)
def fstF (p : Nat → Prop) [DecidablePred p] (M : Nat) (d : Int32) : Nat → Int32
  | 0 => d
  | n + 1 => if p (M - (n + 1)) then nI (M - (n + 1)) else fstF p M d n
/-! bags -/
def bagS (C : Nat → Nat) : Nat → Nat → Nat
  | 0, _ => 0
  | k + 1, set => bagS C k set + (if set / 2 ^ k % 2 = 1 then C k else 0)
def okBags (K : Nat) (C : Nat → Nat) : Prop := K ≤ 9 ∧ ∀ k, k < K → C k ≤ 999
def cBags (o : Nat) (h : hp) (K : Nat) (C : Nat → Nat) : Prop := gI h (o + 15) 0 = nI K ∧ ∀ set, set < 2 ^ K → gI h (o + 16) set = nI (bagS C K set)
def mBags (s : Nat) (h : hp) (K : Nat) (C : Nat → Nat) : Prop := gI h 17 s = nI K ∧ ∀ k, k < K → gI h 18 (9 * s + k) = nI (C k)
theorem bagS_le {C : Nat → Nat} (set : Nat) : ∀ K : Nat, (∀ k, k < K → C k ≤ 999) → bagS C K set ≤ 999 * K
  | 0, _ => Nat.le_refl 0
  | K + 1, h => by
    have h1 := bagS_le set K (fun k hk => h k (by omega))
    have h2 := h K (by omega)
    unfold bagS
    split <;> omega
theorem pow_9 {K : Nat} (h : K ≤ 9) : 2 ^ K ≤ 512 := Nat.pow_le_pow_right (n := 2) (by omega) h
theorem m_sumOf {h : hp} {s K set : Nat} {C : Nat → Nat} {Q : Int32 → Prop} (t : mAt h s) (a : mBags s h K C) (ok : okBags K C) (hs : set < 512) (hq : Q (nI (bagS C K set))) : w_X12_sumOf h (nI set) Q := by
  have hs2 := t.2
  have hK := ok.1
  unfold w_X12_sumOf w_X12_sumOf_0 w_X12_sumOf_4
  intro X hX
  have key : ∀ n k : Nat, n + k = K → X (nI (bagS C k set), nI k) := by
    intro n
    induction n with
    | zero =>
      intro k hk
      have ek : k = K := by omega
      subst ek
      apply hX
      refine ⟨by rw [t.1]; exact in_n hs2 (by omega), fun _ => hq, fun c => absurd ?_ c⟩
      rw [t.1, ix_n (by omega), a.1]
      exact nI_le (Nat.le_refl _) (by omega)
    | succ n ih =>
      intro k hk
      apply hX
      have e9 : 9 * nI s + nI k = nI (9 * s + k) := by
        rw [show (9 : Int32) = nI 9 from rfl, nI_mul (by omega) (by omega) (by omega), nI_add]
      have nxt := ih (k + 1) (by omega)
      refine ⟨by rw [t.1]; exact in_n hs2 (by omega), fun c => absurd c ?_, fun _ => ⟨fun c y ey => ?_, fun c => ⟨?_, fun y ey z ez => ?_⟩⟩⟩
      · rw [t.1, ix_n (by omega), a.1]
        exact nI_ge (by omega) (by omega)
      · have c : ¬ jshr (nI set) (nI k) &&& 1 = 1 := c
        rw [bit_n (by omega) (by omega)] at c
        have ey : y = nI k + 1 := ey
        rw [← nI_succ] at ey
        subst ey
        have e : bagS C (k + 1) set = bagS C k set := by
          show bagS C k set + (if set / 2 ^ k % 2 = 1 then C k else 0) = _
          rw [if_neg (fun q => c (by rw [q]; rfl))]
          rfl
        rw [e] at nxt
        exact nxt
      · show vp_in (9 * gI h 0 18 + nI k) 18
        rw [t.1, e9]
        exact in_n (by omega) (by omega)
      · have c : jshr (nI set) (nI k) &&& 1 = 1 := c
        rw [bit_n (by omega) (by omega)] at c
        have c1 := (nI_eq (a := set / 2 ^ k % 2) (b := 1) (by omega) (by omega)).mp c
        have ey : y = nI (bagS C k set) + gI h 18 (ix (9 * gI h 0 18 + nI k)) := ey
        have ez : z = nI k + 1 := ez
        rw [t.1, e9, ix_n (by omega), a.2 k (by omega), nI_add] at ey
        rw [← nI_succ] at ez
        subst ey ez
        have e : bagS C (k + 1) set = bagS C k set + C k := by
          show bagS C k set + _ = _
          rw [if_pos c1]
        rw [e] at nxt
        exact nxt
  exact key K 0 (by omega)
abbrev isWg (x y : Int32) : Prop := (0 ≤ x.toInt ∧ x.toInt ≤ 999999) ∧ 1 ≤ y.toInt ∧ y.toInt ≤ 99
theorem c_isWeighing {x y : Int32} {Q : Int32 → Prop} (hq1 : isWg x y → Q 1) (hq0 : ¬ isWg x y → Q 0) : w_X11_isWeighing x y Q := by
  unfold w_X11_isWeighing w_X11_isWeighing_0
  refine c_within (fun c1 => ⟨fun q => absurd q (by decide), fun _ => ?_⟩) (fun c1 => ⟨fun _ => hq0 (fun q => c1 (by rw [tL_int]; exact q.1)), fun q => absurd rfl q⟩)
  rw [tL_int] at c1
  refine c_within (fun c2 => ⟨fun q => absurd q (by decide), fun _ => ?_⟩) (fun c2 => ⟨fun _ => hq0 (fun q => c2 (by rw [tL_int]; exact q.2)), fun q => absurd rfl q⟩)
  rw [tL_int] at c2
  exact hq1 ⟨c1, c2⟩
abbrev offP (K : Nat) (C : Nat → Nat) (x y : Int32) (set : Nat) : Prop := nI (bagS C K set) * y = x
theorem c_bad {h : hp} {o K : Nat} {C : Nat → Nat} {x y : Int32} {Q : Int32 → Prop} (t : cAt h o) (a : cBags o h K C) (ok : okBags K C) (hq1 : isWg x y → Q (nI (cntF (offP K C x y) (2 ^ K) (2 ^ K) 0))) (hq0 : ¬ isWg x y → Q (-1)) : w_X11_bad h x y Q := by
  unfold w_X11_bad w_X11_bad_0
  refine c_isWeighing (fun z => ⟨fun c => absurd c (by decide), fun _ => ⟨by rw [t.1]; exact t.2, ?_⟩⟩) (fun z => ⟨fun _ => hq0 z, fun c => absurd rfl c⟩)
  have hq := hq1 z
  have hM := pow_9 ok.1
  rw [t.1]
  unfold w_X0_setsOff w_X0_setsOff_0 w_X0_setsOff_5
  intro X hX
  have key : ∀ n acc : Nat, n ≤ 2 ^ K → Q (nI (cntF (offP K C x y) (2 ^ K) n acc)) → X (nI acc, nI (2 ^ K - n)) := by
    intro n
    induction n with
    | zero =>
      intro acc _ hq
      apply hX
      unfold w_X0_setsOff_b5 w_X0_sets w_X0_sets_0
      rw [a.1, shl1 K (by have := ok.1; omega)]
      exact ⟨fun _ => hq, fun c => absurd (nI_le (Nat.le_refl _) (by omega)) c⟩
    | succ n ih =>
      intro acc hn hq
      apply hX
      unfold w_X0_setsOff_b5 w_X0_sets w_X0_sets_0
      unfold cntF at hq
      show (jshl 1 (gI h (o + 15) 0) ≤ nI (2 ^ K - (n + 1)) → _) ∧ (¬ jshl 1 (gI h (o + 15) 0) ≤ nI (2 ^ K - (n + 1)) → vp_in (nI (2 ^ K - (n + 1))) 512 ∧ (¬ gI h (o + 16) (ix (nI (2 ^ K - (n + 1)))) * y = x → _) ∧ (gI h (o + 16) (ix (nI (2 ^ K - (n + 1)))) * y = x → _))
      rw [a.1, shl1 K (by have := ok.1; omega), ix_n (by omega), a.2 (2 ^ K - (n + 1)) (by omega)]
      refine ⟨fun c => absurd c (nI_ge (by omega) (by omega)), fun _ => ⟨in_n (by omega) (by omega), fun c u eu => ?_, fun c v ev u eu => ?_⟩⟩
      · have eu : u = nI (2 ^ K - (n + 1)) + 1 := eu
        rw [← nI_succ, show 2 ^ K - (n + 1) + 1 = 2 ^ K - n from by omega] at eu
        rw [if_neg c] at hq
        subst eu
        exact ih acc (by omega) hq
      · have eu : u = nI (2 ^ K - (n + 1)) + 1 := eu
        have ev : v = nI acc + 1 := ev
        rw [← nI_succ, show 2 ^ K - (n + 1) + 1 = 2 ^ K - n from by omega] at eu
        rw [← nI_succ] at ev
        rw [if_pos c] at hq
        subst eu ev
        exact ih (acc + 1) (by omega) hq
  have := key (2 ^ K) 0 (Nat.le_refl _) hq
  rw [Nat.sub_self] at this
  exact this
theorem m_bad {h : hp} {s K : Nat} {C : Nat → Nat} {x y : Int32} {Q : Int32 → Prop} (t : mAt h s) (a : mBags s h K C) (ok : okBags K C) (hq1 : isWg x y → Q (nI (cntF (offP K C x y) (2 ^ K) (2 ^ K) 0))) (hq0 : ¬ isWg x y → Q (-1)) : w_X12_bad h x y Q := by
  unfold w_X12_bad w_X12_bad_0
  refine m_in (fun c1 => ⟨fun q => absurd q (by decide), fun _ => ?_⟩) (fun c1 => ⟨fun _ => hq0 (fun q => c1 (by rw [tL_int]; exact q.1)), fun q => absurd rfl q⟩)
  rw [tL_int] at c1
  refine m_in (fun c2 => ⟨fun _ => ?_, fun q => absurd q (by decide)⟩) (fun c2 => ⟨fun q => absurd rfl q, fun _ => hq0 (fun q => c2 (by rw [tL_int]; exact q.2))⟩)
  rw [tL_int] at c2
  have hq := hq1 ⟨c1, c2⟩
  have hM := pow_9 ok.1
  have hs := t.2
  have eM : jshl 1 (gI h 17 (ix (gI h 0 18))) = nI (2 ^ K) := by rw [t.1, ix_n (by omega), a.1, shl1 K (by have := ok.1; omega)]
  unfold w_X12_bad_31
  intro X hX
  have key : ∀ n acc : Nat, n ≤ 2 ^ K → Q (nI (cntF (offP K C x y) (2 ^ K) n acc)) → X (nI acc, nI (2 ^ K - n)) := by
    intro n
    induction n with
    | zero =>
      intro acc _ hq
      apply hX
      unfold w_X12_bad_b31
      rw [eM]
      exact ⟨by rw [t.1]; exact in_n hs (by omega), fun _ => hq, fun c => absurd (nI_le (Nat.le_refl _) (by omega)) c⟩
    | succ n ih =>
      intro acc hn hq
      apply hX
      unfold cntF at hq
      unfold w_X12_bad_b31
      rw [eM]
      refine ⟨by rw [t.1]; exact in_n hs (by omega), fun c => absurd c (nI_ge (by omega) (by omega)), fun _ => m_sumOf (set := 2 ^ K - (n + 1)) t a ok (by omega) ⟨fun c u eu => ?_, fun c v ev u eu => ?_⟩⟩
      · have eu : u = nI (2 ^ K - (n + 1)) + 1 := eu
        rw [← nI_succ, show 2 ^ K - (n + 1) + 1 = 2 ^ K - n from by omega] at eu
        rw [if_neg c] at hq
        subst eu
        exact ih acc (by omega) hq
      · have eu : u = nI (2 ^ K - (n + 1)) + 1 := eu
        have ev : v = nI acc + 1 := ev
        rw [← nI_succ, show 2 ^ K - (n + 1) + 1 = 2 ^ K - n from by omega] at eu
        rw [← nI_succ] at ev
        rw [if_pos c] at hq
        subst eu ev
        exact ih (acc + 1) (by omega) hq
  have := key (2 ^ K) 0 (Nat.le_refl _) hq
  rw [Nat.sub_self] at this
  exact this
theorem c_badSet {h : hp} {o K : Nat} {C : Nat → Nat} {x y : Int32} {Q : Int32 → Prop} (t : cAt h o) (a : cBags o h K C) (ok : okBags K C) (hq1 : isWg x y → Q (fstF (offP K C x y) (2 ^ K) (-2) (2 ^ K))) (hq0 : ¬ isWg x y → Q (-1)) : w_X11_badSet h x y Q := by
  unfold w_X11_badSet w_X11_badSet_0
  refine c_isWeighing (fun z => ⟨fun c => absurd c (by decide), fun _ => ⟨by rw [t.1]; exact t.2, ?_⟩⟩) (fun z => ⟨fun _ => hq0 z, fun c => absurd rfl c⟩)
  have hq := hq1 z
  have hM := pow_9 ok.1
  rw [t.1]
  unfold w_X0_leastSetOff w_X0_leastSetOff_0 w_X0_leastSetOff_2
  intro X hX
  have key : ∀ n : Nat, n ≤ 2 ^ K → Q (fstF (offP K C x y) (2 ^ K) (-2) n) → X (nI (2 ^ K - n)) := by
    intro n
    induction n with
    | zero =>
      intro _ hq
      apply hX
      unfold w_X0_leastSetOff_b2 w_X0_sets w_X0_sets_0
      rw [a.1, shl1 K (by have := ok.1; omega)]
      exact ⟨fun _ => hq, fun c => absurd (nI_le (Nat.le_refl _) (by omega)) c⟩
    | succ n ih =>
      intro hn hq
      apply hX
      unfold w_X0_leastSetOff_b2 w_X0_sets w_X0_sets_0
      unfold fstF at hq
      rw [a.1, shl1 K (by have := ok.1; omega), ix_n (by omega), show o + 15 + 1 = o + 16 from rfl, a.2 (2 ^ K - (n + 1)) (by omega)]
      refine ⟨fun c => absurd c (nI_ge (by omega) (by omega)), fun _ => ⟨in_n (by omega) (by omega), fun c u eu => ?_, fun c => ?_⟩⟩
      · rw [← nI_succ, show 2 ^ K - (n + 1) + 1 = 2 ^ K - n from by omega] at eu
        rw [if_neg c] at hq
        subst eu
        exact ih (by omega) hq
      · rw [if_pos c] at hq
        exact hq
  have := key (2 ^ K) (Nat.le_refl _) hq
  rw [Nat.sub_self] at this
  exact this
theorem m_badSet {h : hp} {s K : Nat} {C : Nat → Nat} {x y : Int32} {Q : Int32 → Prop} (t : mAt h s) (a : mBags s h K C) (ok : okBags K C) (hq1 : isWg x y → Q (fstF (offP K C x y) (2 ^ K) (-2) (2 ^ K))) (hq0 : ¬ isWg x y → Q (-1)) : w_X12_badSet h x y Q := by
  unfold w_X12_badSet w_X12_badSet_0
  refine m_in (fun c1 => ⟨fun q => absurd q (by decide), fun _ => ?_⟩) (fun c1 => ⟨fun _ => hq0 (fun q => c1 (by rw [tL_int]; exact q.1)), fun q => absurd rfl q⟩)
  rw [tL_int] at c1
  refine m_in (fun c2 => ⟨fun _ => ?_, fun q => absurd q (by decide)⟩) (fun c2 => ⟨fun q => absurd rfl q, fun _ => hq0 (fun q => c2 (by rw [tL_int]; exact q.2))⟩)
  rw [tL_int] at c2
  have hq := hq1 ⟨c1, c2⟩
  have hM := pow_9 ok.1
  have hs := t.2
  have eM : jshl 1 (gI h 17 (ix (gI h 0 18))) = nI (2 ^ K) := by rw [t.1, ix_n (by omega), a.1, shl1 K (by have := ok.1; omega)]
  unfold w_X12_badSet_28
  intro X hX
  have key : ∀ n : Nat, n ≤ 2 ^ K → Q (fstF (offP K C x y) (2 ^ K) (-2) n) → X (nI (2 ^ K - n)) := by
    intro n
    induction n with
    | zero =>
      intro _ hq
      apply hX
      unfold w_X12_badSet_b28
      rw [eM]
      exact ⟨by rw [t.1]; exact in_n hs (by omega), fun _ => hq, fun c => absurd (nI_le (Nat.le_refl _) (by omega)) c⟩
    | succ n ih =>
      intro hn hq
      apply hX
      unfold fstF at hq
      unfold w_X12_badSet_b28
      rw [eM]
      refine ⟨by rw [t.1]; exact in_n hs (by omega), fun c => absurd c (nI_ge (by omega) (by omega)), fun _ => m_sumOf (set := 2 ^ K - (n + 1)) t a ok (by omega) ⟨fun c u eu => ?_, fun c => ?_⟩⟩
      · rw [← nI_succ, show 2 ^ K - (n + 1) + 1 = 2 ^ K - n from by omega] at eu
        rw [if_neg c] at hq
        subst eu
        exact ih (by omega) hq
      · rw [if_pos c] at hq
        exact hq
  have := key (2 ^ K) (Nat.le_refl _) hq
  rw [Nat.sub_self] at this
  exact this
/-! heaps that are the same but for scratch -/
def eqE (P : Nat → Nat → Prop) (h h1 : hp) : Prop := (∀ a j, ¬ P a j → gI h1 a j = gI h a j ∧ gL h1 a j = gL h a j) ∧ ∀ i, gR h1 i = gR h i
theorem eqE_refl {P : Nat → Nat → Prop} (h : hp) : eqE P h h := ⟨fun _ _ _ => ⟨rfl, rfl⟩, fun _ => rfl⟩
theorem eqE_trans {P : Nat → Nat → Prop} {h h1 h2 : hp} (a : eqE P h h1) (b : eqE P h1 h2) : eqE P h h2 :=
  ⟨fun c j n => ⟨by rw [(b.1 c j n).1, (a.1 c j n).1], by rw [(b.1 c j n).2, (a.1 c j n).2]⟩, fun i => by rw [b.2, a.2]⟩
theorem eqE_sI {P : Nat → Nat → Prop} {h h1 : hp} {c k : Nat} {v : Int32} (a : eqE P h h1) (hc : P c k) : eqE P h (sI h1 c k v) :=
  ⟨fun d j n => ⟨by rw [gI_sI, if_neg (fun z => n (by rw [z.1, z.2]; exact hc))]; exact (a.1 d j n).1, (a.1 d j n).2⟩, a.2⟩
theorem eqE_sL {P : Nat → Nat → Prop} {h h1 : hp} {c k : Nat} {v : Int64} (a : eqE P h h1) (hc : P c k) : eqE P h (sL h1 c k v) :=
  ⟨fun d j n => ⟨(a.1 d j n).1, by rw [gL_sL, if_neg (fun z => n (by rw [z.1, z.2]; exact hc))]; exact (a.1 d j n).2⟩, a.2⟩
/-- the class's scratch -/
def cScr (a _j : Nat) : Prop := a = 65 ∨ (67 ≤ a ∧ a ≤ 93) ∨ a = 22 ∨ a = 23 ∨ a = 28 ∨ a = 29 ∨ a = 32 ∨ a = 40 ∨ a = 41 ∨ a = 46 ∨ a = 47 ∨ a = 50
def isO (o : Nat) : Prop := o = 15 ∨ o = 33
/-! a cell that is filled -/
def fillI (a : Nat) (v : Int32) (h : hp) : Nat → hp
  | 0 => h
  | k + 1 => sI (fillI a v h k) a k v
theorem fillI_I (a : Nat) (v : Int32) (h : hp) : ∀ (n x j : Nat), gI (fillI a v h n) x j = if x = a ∧ j < n then v else gI h x j
  | 0, x, j => by rw [if_neg (by omega)]; rfl
  | n + 1, x, j => by
    show gI (sI (fillI a v h n) a n v) x j = _
    rw [gI_sI, fillI_I a v h n]
    by_cases e : x = a ∧ j = n
    · rw [if_pos e, if_pos ⟨e.1, by omega⟩]
    · rw [if_neg e]
      by_cases e2 : x = a ∧ j < n
      · rw [if_pos e2, if_pos ⟨e2.1, by omega⟩]
      · rw [if_neg e2, if_neg (fun q => e2 ⟨q.1, by have : ¬ j = n := fun z => e ⟨q.1, z⟩; omega⟩)]
theorem fillI_L (a : Nat) (v : Int32) (h : hp) : ∀ (n x j : Nat), gL (fillI a v h n) x j = gL h x j
  | 0, _, _ => rfl
  | n + 1, x, j => fillI_L a v h n x j
theorem fillI_R (a : Nat) (v : Int32) (h : hp) : ∀ (n i : Nat), gR (fillI a v h n) i = gR h i
  | 0, _ => rfl
  | n + 1, i => fillI_R a v h n i
theorem eqE_fill {P : Nat → Nat → Prop} {h h1 : hp} {a n : Nat} {v : Int32} (e : eqE P h h1) (hP : ∀ j, j < n → P a j) : eqE P h (fillI a v h1 n) := by
  refine ⟨fun x j nP => ⟨?_, ?_⟩, fun i => ?_⟩
  · rw [fillI_I, if_neg (fun q => nP (by rw [q.1]; exact hP j q.2))]; exact (e.1 x j nP).1
  · rw [fillI_L]; exact (e.1 x j nP).2
  · rw [fillI_R]; exact e.2 i
theorem c_fillB {a n : Nat} {h : hp} {x : Int32} {Q : hp → Prop} (hn : n < 2147483648) (hq : Q (fillI a (jb x) h n)) : w_J7_fill_031fb a n h x Q := by
  unfold w_J7_fill_031fb w_J7_fill_031fb_0
  intro y ey
  subst ey
  unfold w_J7_fill_031fb_5
  intro X hX
  have key : ∀ m k : Nat, m + k = n → X (nI k, fillI a (jb x) h k) := by
    intro m
    induction m with
    | zero =>
      intro k hk
      have ek : k = n := by omega
      subst ek
      apply hX
      exact ⟨fun _ => hq, fun c => absurd (nI_le (Nat.le_refl _) (by omega)) c⟩
    | succ m ih =>
      intro k hk
      apply hX
      refine ⟨fun c => absurd c (nI_ge (by omega) (by omega)), fun _ => ⟨in_n (by omega) (by omega), fun h3 e3 y ey => ?_⟩⟩
      have e3 : h3 = sI (fillI a (jb x) h k) a (ix (nI k)) (jb x) := e3
      have ey : y = nI k + 1 := ey
      rw [ix_n (by omega)] at e3
      rw [← nI_succ] at ey
      rw [e3, ey]
      exact ih (k + 1) (by omega)
  exact key n 0 (by omega)
/-! gaps -/
def dst (a b : Nat) : Nat := (a - b) + (b - a)
def gapP (f : Nat → Nat) (M g : Nat) : Prop := ∃ i j, j < i ∧ i < M ∧ dst (f i) (f j) = g
def isMin (P : Nat → Prop) (g : Nat) : Prop := P g ∧ ∀ g', P g' → g ≤ g'
theorem isMin_one {P : Nat → Prop} {a b : Nat} (ha : isMin P a) (hb : isMin P b) : a = b := by
  have := ha.2 b hb.1
  have := hb.2 a ha.1
  omega
theorem isMin_ex {P : Nat → Prop} : ∀ n : Nat, (∃ g, P g ∧ g ≤ n) → ∃ g, isMin P g := by
  intro n
  induction n with
  | zero =>
    rintro ⟨g, hg, h0⟩
    exact ⟨g, hg, fun g' _ => by omega⟩
  | succ n ih =>
    rintro ⟨g, hg, h0⟩
    rcases Classical.em (∃ g, P g ∧ g ≤ n) with q | q
    · exact ih q
    · refine ⟨g, hg, fun g' hg' => ?_⟩
      rcases Nat.lt_or_ge n g' with q2 | q2
      · omega
      · exact absurd ⟨g', hg', q2⟩ q
/-- marks of the numbers in P -/
def mrk (a : Nat) (h : hp) (P : Nat → Prop) : Prop := ∀ j, j < 8992 → (¬ gI h a j = 0 ↔ P j)
theorem c_between {o : Nat} {h : hp} {P : Nat → Prop} {Q : Int32 → Prop} (hm : mrk (o + 2) h P) (h0 : P 0) (hP : ∀ j, P j → j < 8992) (hq : ∀ g, (isMin (fun g => ∃ a b, b < a ∧ P a ∧ P b ∧ a - b = g) g ∨ (g = 8992 ∧ ∀ a b, b < a → P a → P b → False)) → Q (nI g)) : w_X0_leastBetweenMarks o h Q := by
  unfold w_X0_leastBetweenMarks w_X0_leastBetweenMarks_0 w_X0_leastBetweenMarks_10
  intro X hX
  have key : ∀ (n g l : Nat), n ≤ 8991 → (isMin (fun g => ∃ a b, b < a ∧ a < 8992 - n ∧ P a ∧ P b ∧ a - b = g) g ∨ (g = 8992 ∧ ∀ a b, b < a → a < 8992 - n → P a → P b → False)) → g ≤ 8992 → P l → l < 8992 - n → (∀ a, a < 8992 - n → P a → a ≤ l) → X (nI g, nI l, nI (8992 - n)) := by
    intro n
    induction n with
    | zero =>
      intro g l _ hg _ _ _ _
      apply hX
      refine ⟨fun _ => hq g ?_, fun c => absurd (show (8992 : Int32) ≤ nI 8992 by decide) c⟩
      rcases hg with q | q
      · obtain ⟨⟨a, b, u⟩, v⟩ := q
        exact Or.inl ⟨⟨a, b, u.1, u.2.2⟩, fun g' ⟨a', b', u'⟩ => v g' ⟨a', b', u'.1, hP a' u'.2.1, u'.2⟩⟩
      · exact Or.inr ⟨q.1, fun a b u v w => q.2 a b u (hP a v) v w⟩
    | succ n ih =>
      intro g l hn hg hg9 hl hl2 hl3
      apply hX
      refine ⟨fun c => absurd c (nI_ge (b := 8992) (by omega) (by omega)), fun _ => ⟨in_n (by omega) (by omega), fun c y ey => ?_, fun c y ey z ez => ?_⟩⟩
      · have c : gI h (o + 2) (ix (nI (8992 - (n + 1)))) = 0 := c
        rw [ix_n (by omega)] at c
        have nP : ¬ P (8992 - (n + 1)) := fun q => (hm (8992 - (n + 1)) (by omega)).mpr q c
        have ey : y = nI (8992 - (n + 1)) + 1 := ey
        rw [← nI_succ, show 8992 - (n + 1) + 1 = 8992 - n from by omega] at ey
        subst ey
        have lt : ∀ a, a < 8992 - n → P a → a < 8992 - (n + 1) := fun a ha hpa => by
          rcases Nat.lt_or_ge a (8992 - (n + 1)) with q | q
          · exact q
          · rw [show a = 8992 - (n + 1) from by omega] at hpa; exact absurd hpa nP
        refine ih g l (by omega) ?_ hg9 hl (by omega) (fun a ha hpa => hl3 a (lt a ha hpa) hpa)
        rcases hg with q | q
        · obtain ⟨⟨a, b, u⟩, v⟩ := q
          exact Or.inl ⟨⟨a, b, u.1, by omega, u.2.2⟩, fun g' ⟨a', b', u'⟩ => v g' ⟨a', b', u'.1, lt a' u'.2.1 u'.2.2.1, u'.2.2⟩⟩
        · exact Or.inr ⟨q.1, fun a b u v w => q.2 a b u (lt a v w) w⟩
      · have c : ¬ gI h (o + 2) (ix (nI (8992 - (n + 1)))) = 0 := c
        rw [ix_n (by omega)] at c
        have hPs : P (8992 - (n + 1)) := (hm (8992 - (n + 1)) (by omega)).mp c
        have ez : z = nI (8992 - (n + 1)) + 1 := ez
        rw [← nI_succ, show 8992 - (n + 1) + 1 = 8992 - n from by omega] at ez
        have ey : y = if nI (8992 - (n + 1)) - nI l < nI g then nI (8992 - (n + 1)) - nI l else nI g := ey
        rw [nI_sub (by omega) (by omega)] at ey
        have ey2 : y = nI (if 8992 - (n + 1) - l < g then 8992 - (n + 1) - l else g) := by
          rw [ey]
          by_cases q : 8992 - (n + 1) - l < g
          · rw [if_pos q, if_pos (nI_lt q (by omega))]
          · rw [if_neg q, if_neg (nI_nlt (by omega) (by omega))]
        subst ey2 ez
        clear ey
        refine ih _ (8992 - (n + 1)) (by omega) (Or.inl ?_) (by split <;> omega) hPs (by omega) (fun a ha _ => by omega)
        have one : ∀ a' b', b' < a' → a' < 8992 - n → P a' → P b' → (a' < 8992 - (n + 1) ∨ (a' = 8992 - (n + 1) ∧ b' ≤ l)) := fun a' b' u v w w' => by
          rcases Nat.lt_or_ge a' (8992 - (n + 1)) with q | q
          · exact Or.inl q
          · exact Or.inr ⟨by omega, hl3 b' (by omega) w'⟩
        by_cases q : 8992 - (n + 1) - l < g
        · rw [if_pos q]
          refine ⟨⟨8992 - (n + 1), l, by omega, by omega, hPs, hl, rfl⟩, fun g' ⟨a', b', u1, u2, u3, u4, u5⟩ => ?_⟩
          rcases one a' b' u1 u2 u3 u4 with r | r
          · rcases hg with w | w
            · have := w.2 g' ⟨a', b', u1, r, u3, u4, u5⟩; omega
            · exact absurd (w.2 a' b' u1 r u3 u4) id
          · omega
        · rw [if_neg q]
          rcases hg with w | w
          · obtain ⟨⟨a, b, u⟩, v⟩ := w
            refine ⟨⟨a, b, u.1, by omega, u.2.2⟩, fun g' ⟨a', b', u1, u2, u3, u4, u5⟩ => ?_⟩
            rcases one a' b' u1 u2 u3 u4 with r | r
            · exact v g' ⟨a', b', u1, r, u3, u4, u5⟩
            · omega
          · omega
  refine key 8991 8992 0 (Nat.le_refl _) (Or.inr ⟨rfl, fun a b u v _ _ => by omega⟩) (Nat.le_refl _) h0 (by omega) (fun a ha _ => by omega)
theorem bagS_0 {C : Nat → Nat} : ∀ K, bagS C K 0 = 0
  | 0 => rfl
  | K + 1 => by
    show bagS C K 0 + _ = 0
    rw [bagS_0 K, Nat.zero_div]
    rfl
theorem c_gap {h : hp} {o K : Nat} {C : Nat → Nat} {Q : Int32 → hp → Prop} (ho : isO o) (a : cBags o h K C) (ok : okBags K C) (hq0 : K = 0 → Q (-2) h) (hq1 : ∀ g h1, 0 < K → isMin (gapP (bagS C K) (2 ^ K)) g → eqE cScr h h1 → Q (nI g) h1) : w_X0_leastGap (o + 15) h Q := by
  have hM := pow_9 ok.1
  have hK := ok.1
  unfold w_X0_leastGap w_X0_leastGap_0
  rw [a.1]
  refine ⟨fun c => ?_, fun c => hq0 ((nI_eq (a := K) (b := 0) (by omega) (by omega)).mp c)⟩
  have hK0 : 0 < K := by
    rcases Nat.eq_zero_or_pos K with q | q
    · exact absurd (by rw [q]; rfl) c
    · exact q
  have hpos : 2 ≤ 2 ^ K := Nat.le_trans (show 2 ≤ 2 ^ 1 by decide) (Nat.pow_le_pow_right (by omega) hK0)
  have hf : ∀ i, bagS C K i ≤ 8991 := fun i => by have := bagS_le (C := C) i K ok.2; omega
  have scr : ∀ j, cScr (o + 17) j := fun j => by
    unfold cScr
    rcases ho with q | q
    · subst q; omega
    · subst q; omega
  refine c_fillB (by omega) ?_
  have e2 : eqE cScr h (fillI (o + 15 + 2) (jb 0) h 8992) := eqE_fill (eqE_refl h) (fun j _ => scr j)
  have m2 : mrk (o + 17) (fillI (o + 15 + 2) (jb 0) h 8992) (fun j => ∃ i, i < 0 ∧ bagS C K i = j) := fun j hj => by
    rw [fillI_I, if_pos ⟨rfl, hj⟩]
    exact ⟨fun q => absurd (show jb 0 = 0 by decide) q, fun ⟨i, hi, _⟩ => by omega⟩
  generalize fillI (o + 15 + 2) (jb 0) h 8992 = h2 at e2 m2
  unfold w_X0_leastGap_20
  intro X hX
  have key : ∀ (n i : Nat) (g : hp), n + i = 2 ^ K → eqE cScr h g → mrk (o + 17) g (fun j => ∃ i', i' < i ∧ bagS C K i' = j) → (∀ a b, b < a → a < i → ¬ bagS C K a = bagS C K b) → X (nI i, g) := by
    intro n
    induction n with
    | zero =>
      intro i g hi eg mg dg
      have ei : i = 2 ^ K := by omega
      subst ei
      apply hX
      unfold w_X0_leastGap_b20 w_X0_sets w_X0_sets_0
      have e15 : gI g (o + 15) 0 = nI K := by
        rw [(eg.1 (o + 15) 0 (by unfold cScr; rcases ho with q | q <;> subst q <;> omega)).1]; exact a.1
      rw [e15, shl1 K (by omega)]
      refine ⟨fun _ => ?_, fun c => absurd (nI_le (Nat.le_refl _) (by omega)) c⟩
      refine c_between mg ⟨0, by omega, bagS_0 K⟩ (fun j ⟨i, _, e⟩ => by have := hf i; omega) (fun g' hg' => hq1 g' g hK0 ?_ eg)
      have conv : ∀ x y, y < x → x < 2 ^ K → dst (bagS C K x) (bagS C K y) = (if bagS C K y < bagS C K x then bagS C K x - bagS C K y else bagS C K y - bagS C K x) := fun x y _ _ => by
        unfold dst; split <;> omega
      rcases hg' with q | q
      · obtain ⟨⟨u, v, huv, ⟨x, hx, ex⟩, ⟨y, hy, ey⟩, e⟩, mn⟩ := q
        have mk : gapP (bagS C K) (2 ^ K) g' := by
          rcases Nat.lt_trichotomy x y with c | c | c
          · exact ⟨y, x, c, hy, by unfold dst; omega⟩
          · subst c; omega
          · exact ⟨x, y, c, hx, by unfold dst; omega⟩
        refine ⟨mk, fun g'' ⟨x', y', h1, h2, h3⟩ => ?_⟩
        have nd := dg x' y' h1 h2
        rcases Nat.lt_or_ge (bagS C K y') (bagS C K x') with c | c
        · exact mn g'' ⟨bagS C K x', bagS C K y', c, ⟨x', h2, rfl⟩, ⟨y', by omega, rfl⟩, by unfold dst at h3; omega⟩
        · exact mn g'' ⟨bagS C K y', bagS C K x', by omega, ⟨y', by omega, rfl⟩, ⟨x', h2, rfl⟩, by unfold dst at h3; omega⟩
      · have nd := dg 1 0 (by omega) (by omega)
        rcases Nat.lt_or_ge (bagS C K 0) (bagS C K 1) with c | c
        · exact absurd (q.2 _ _ c ⟨1, by omega, rfl⟩ ⟨0, by omega, rfl⟩) id
        · exact absurd (q.2 (bagS C K 0) (bagS C K 1) (by omega) ⟨0, by omega, rfl⟩ ⟨1, by omega, rfl⟩) id
    | succ n ih =>
      intro i g hi eg mg dg
      apply hX
      unfold w_X0_leastGap_b20 w_X0_sets w_X0_sets_0
      have e15 : gI g (o + 15) 0 = nI K := by
        rw [(eg.1 (o + 15) 0 (by unfold cScr; rcases ho with q | q <;> subst q <;> omega)).1]; exact a.1
      have e16 : gI g (o + 16) i = nI (bagS C K i) := by
        rw [(eg.1 (o + 16) i (by unfold cScr; rcases ho with q | q <;> subst q <;> omega)).1]; exact a.2 i (by omega)
      have hfi := hf i
      rw [e15, shl1 K (by omega)]
      refine ⟨fun c => absurd c (nI_ge (by omega) (by omega)), fun _ => ⟨in_n (by omega) (by omega), fun x ex => ?_⟩⟩
      have ex : x = gI g (o + 16) (ix (nI i)) := ex
      rw [ix_n (by omega), e16] at ex
      subst ex
      refine ⟨fun c => absurd c (nI_ge (b := 8992) (by omega) (by omega)), fun _ => ⟨in_n (by omega) (by omega), fun c => ?_, fun c => ?_⟩⟩
      · have c : gI g (o + 17) (ix (nI (bagS C K i))) = 0 := c
        rw [ix_n (by omega)] at c
        refine ⟨in_n (by omega) (by omega), fun h3 e3 y ey => ?_⟩
        have e3 : h3 = sI g (o + 17) (ix (nI (bagS C K i))) (jb 1) := e3
        have ey : y = nI i + 1 := ey
        rw [ix_n (by omega)] at e3
        rw [← nI_succ] at ey
        subst ey e3
        refine ih (i + 1) _ (by omega) (eqE_sI eg (scr _)) (fun j hj => ?_) (fun x y hxy hx => ?_)
        · rw [gI_sI]
          by_cases q : j = bagS C K i
          · rw [if_pos ⟨rfl, q⟩]
            exact ⟨fun _ => ⟨i, by omega, q.symm⟩, fun _ => by decide⟩
          · rw [if_neg (fun z => q z.2)]
            have := mg j hj
            refine ⟨fun z => ?_, fun ⟨i', hi', e⟩ => this.mpr ⟨i', ?_, e⟩⟩
            · obtain ⟨i', hi', e⟩ := this.mp z
              exact ⟨i', by omega, e⟩
            · rcases Nat.lt_or_ge i' i with w | w
              · exact w
              · rw [show i' = i from by omega] at e; exact absurd e.symm q
        · rcases Nat.lt_or_ge x i with w | w
          · exact dg x y hxy w
          · have exi : x = i := by omega
            subst exi
            intro e
            exact (mg (bagS C K x) (by omega)).mpr ⟨y, hxy, e.symm⟩ c
      · have c : ¬ gI g (o + 17) (ix (nI (bagS C K i))) = 0 := c
        rw [ix_n (by omega)] at c
        obtain ⟨i', hi', e⟩ := (mg (bagS C K i) (by omega)).mp c
        exact hq1 0 g hK0 ⟨⟨i, i', hi', by omega, by unfold dst; omega⟩, fun g' _ => Nat.zero_le _⟩ eg
  exact key (2 ^ K) 0 h2 (by omega) e2 m2 (fun a b _ h => by omega)
theorem c_margin {h : hp} {o K : Nat} {C : Nat → Nat} {Q : Int32 → hp → Prop} (t : cAt h o) (ho : isO o) (a : cBags o h K C) (ok : okBags K C) (hq0 : K = 0 → Q (-2) h) (hq1 : ∀ g h1, 0 < K → isMin (gapP (bagS C K) (2 ^ K)) g → eqE cScr h h1 → Q (nI g) h1) : w_X11_margin h Q := by
  unfold w_X11_margin w_X11_margin_0
  rw [t.1]
  exact ⟨t.2, c_gap ho a ok hq0 hq1⟩
theorem c_allTold {h : hp} {o K : Nat} {C : Nat → Nat} {Q : Int32 → hp → Prop} (t : cAt h o) (ho : isO o) (a : cBags o h K C) (ok : okBags K C) (hq0 : ∀ h1, gapP (bagS C K) (2 ^ K) 0 → eqE cScr h h1 → Q 0 h1) (hq1 : ∀ h1, ¬ gapP (bagS C K) (2 ^ K) 0 → eqE cScr h h1 → Q 1 h1) : w_X11_allTold h Q := by
  unfold w_X11_allTold w_X11_allTold_0
  have hM := pow_9 ok.1
  rw [t.1]
  refine ⟨t.2, c_gap ho a ok (fun e => ⟨fun c => absurd c (by decide), fun _ => hq1 h (fun ⟨i, j, u, v, _⟩ => ?_) (eqE_refl h)⟩) (fun g h1 hK mn eh => ?_)⟩
  · rw [e] at v; omega
  · have hf : ∀ i, bagS C K i ≤ 8991 := fun i => by have := bagS_le (C := C) i K ok.2; have := ok.1; omega
    have hg : g ≤ 8991 := by
      obtain ⟨⟨i, j, _, _, e⟩, _⟩ := mn
      have := hf i
      have := hf j
      unfold dst at e
      omega
    refine ⟨fun c => ?_, fun c => ?_⟩
    · have := (nI_eq (a := g) (b := 0) (by omega) (by omega)).mp c
      subst this
      exact hq0 h1 mn.1 eh
    · refine hq1 h1 (fun q => c ?_) eh
      have := mn.2 0 q
      rw [show g = 0 from by omega]; rfl
theorem m_allTold {h : hp} {s K : Nat} {C : Nat → Nat} {Q : Int32 → Prop} (t : mAt h s) (a : mBags s h K C) (ok : okBags K C) (hq0 : gapP (bagS C K) (2 ^ K) 0 → Q 0) (hq1 : ¬ gapP (bagS C K) (2 ^ K) 0 → Q 1) : w_X12_allTold h Q := by
  have hM := pow_9 ok.1
  have hs := t.2
  have hf : ∀ i, bagS C K i ≤ 8991 := fun i => by have := bagS_le (C := C) i K ok.2; have := ok.1; omega
  have eM : jshl 1 (gI h 17 (ix (gI h 0 18))) = nI (2 ^ K) := by rw [t.1, ix_n (by omega), a.1, shl1 K (by have := ok.1; omega)]
  unfold w_X12_allTold w_X12_allTold_0 w_X12_allTold_2
  intro X hX
  have key : ∀ n i : Nat, n + i = 2 ^ K → (∀ x y, x < i → x < y → y < 2 ^ K → ¬ bagS C K x = bagS C K y) → X (nI i) := by
    intro n
    induction n with
    | zero =>
      intro i hi d
      apply hX
      unfold w_X12_allTold_b2
      rw [eM]
      refine ⟨by rw [t.1]; exact in_n hs (by omega), fun _ => hq1 (fun ⟨x, y, u, v, w⟩ => ?_), fun c => absurd (nI_le (by omega) (by omega)) c⟩
      exact d y x (by omega) u v (by unfold dst at w; omega)
    | succ n ih =>
      intro i hi d
      apply hX
      unfold w_X12_allTold_b2
      rw [eM]
      refine ⟨by rw [t.1]; exact in_n hs (by omega), fun c => absurd c (nI_ge (by omega) (by omega)), fun _ y ey => ?_⟩
      rw [← nI_succ] at ey
      subst ey
      unfold w_X12_allTold_21
      intro Y hY
      have key2 : ∀ m j : Nat, m + j = 2 ^ K → i < j → (∀ y, i < y → y < j → ¬ bagS C K i = bagS C K y) → Y (nI j) := by
        intro m
        induction m with
        | zero =>
          intro j hj hij d2
          apply hY
          unfold w_X12_allTold_b21
          rw [eM]
          refine ⟨by rw [t.1]; exact in_n hs (by omega), fun _ y ey => ?_, fun c => absurd (nI_le (by omega) (by omega)) c⟩
          rw [← nI_succ] at ey
          subst ey
          refine ih (i + 1) (by omega) (fun x y hx hxy hy => ?_)
          rcases Nat.lt_or_ge x i with q | q
          · exact d x y q hxy hy
          · have e : x = i := by omega
            subst e
            exact d2 y hxy (by omega)
        | succ m ih2 =>
          intro j hj hij d2
          apply hY
          unfold w_X12_allTold_b21
          rw [eM]
          refine ⟨by rw [t.1]; exact in_n hs (by omega), fun c => absurd c (nI_ge (by omega) (by omega)), fun _ => m_sumOf (set := i) t a ok (by omega) (m_sumOf (set := j) t a ok (by omega) ⟨fun c y ey => ?_, fun c => hq0 ?_⟩)⟩
          · rw [← nI_succ] at ey
            subst ey
            refine ih2 (j + 1) (by omega) (by omega) (fun y hy1 hy2 => ?_)
            rcases Nat.lt_or_ge y j with q | q
            · exact d2 y hy1 q
            · have e : y = j := by omega
              subst e
              exact fun e2 => c (by rw [e2])
          · have := (nI_eq (a := bagS C K i) (b := bagS C K j) (by have := hf i; omega) (by have := hf j; omega)).mp c
            exact ⟨j, i, hij, by omega, by unfold dst; omega⟩
      exact key2 (2 ^ K - (i + 1)) (i + 1) (by omega) (by omega) (fun y h1 h2 => by omega)
  exact key (2 ^ K) 0 (by omega) (fun x y h => by omega)
/-- the best so far of P: none yet, or the least -/
def bst (x : Int32) (P : Nat → Prop) : Prop := (x = -1 ∧ ∀ g, ¬ P g) ∨ ∃ g, x = nI g ∧ g < 100000 ∧ isMin P g
theorem m_margin {h : hp} {s K : Nat} {C : Nat → Nat} {Q : Int32 → Prop} (t : mAt h s) (a : mBags s h K C) (ok : okBags K C) (hq0 : K = 0 → Q (-2)) (hq1 : ∀ g, 0 < K → isMin (gapP (bagS C K) (2 ^ K)) g → Q (nI g)) : w_X12_margin h Q := by
  have hM := pow_9 ok.1
  have hK := ok.1
  have hs := t.2
  have hf : ∀ i, bagS C K i ≤ 8991 := fun i => by have := bagS_le (C := C) i K ok.2; omega
  have eM : jshl 1 (gI h 17 (ix (gI h 0 18))) = nI (2 ^ K) := by rw [t.1, ix_n (by omega), a.1, shl1 K (by omega)]
  have eK : gI h 17 (ix (gI h 0 18)) = nI K := by rw [t.1, ix_n (by omega), a.1]
  have z0 : (0 : Int32).toInt = 0 := rfl
  unfold w_X12_margin w_X12_margin_0
  rw [eK]
  refine ⟨by rw [t.1]; exact in_n hs (by omega), fun c => ?_, fun c => hq0 ((nI_eq (a := K) (b := 0) (by omega) (by omega)).mp c)⟩
  have hK0 : 0 < K := by
    rcases Nat.eq_zero_or_pos K with q | q
    · exact absurd (by rw [q]; rfl) c
    · exact q
  have hpos : 2 ≤ 2 ^ K := Nat.le_trans (show 2 ≤ 2 ^ 1 by decide) (Nat.pow_le_pow_right (by omega) hK0)
  unfold w_X12_margin_19
  intro X hX
  have key : ∀ (n i : Nat) (x : Int32), n + i = 2 ^ K → bst x (gapP (bagS C K) i) → X (x, nI i) := by
    intro n
    induction n with
    | zero =>
      intro i x hi hb
      have ei : i = 2 ^ K := by omega
      subst ei
      apply hX
      unfold w_X12_margin_b19
      rw [eM]
      refine ⟨by rw [t.1]; exact in_n hs (by omega), fun _ => ?_, fun c => absurd (nI_le (Nat.le_refl _) (by omega)) c⟩
      rcases hb with q | ⟨g, e, _, mn⟩
      · exact absurd ⟨1, 0, by omega, by omega, rfl⟩ (q.2 (dst (bagS C K 1) (bagS C K 0)))
      · show Q x
        rw [e]
        exact hq1 g hK0 mn
    | succ n ih =>
      intro i x hi hb
      apply hX
      unfold w_X12_margin_b19
      rw [eM]
      refine ⟨by rw [t.1]; exact in_n hs (by omega), fun c => absurd c (nI_ge (by omega) (by omega)), fun _ => ?_⟩
      show w_X12_margin_36 Q X (nI i) h x 0
      unfold w_X12_margin_36
      intro Y hY
      have key2 : ∀ (m j : Nat) (x : Int32), m + j = i → bst x (fun g => gapP (bagS C K) i g ∨ ∃ j', j' < j ∧ dst (bagS C K i) (bagS C K j') = g) → Y (x, nI j) := by
        intro m
        induction m with
        | zero =>
          intro j x hj hb
          have ej : j = i := by omega
          subst ej
          apply hY
          unfold w_X12_margin_b36
          refine ⟨fun _ y ey => ?_, fun c => absurd (nI_le (Nat.le_refl _) (by omega)) c⟩
          rw [← nI_succ] at ey
          subst ey
          refine ih (j + 1) x (by omega) ?_
          have eP : ∀ g, gapP (bagS C K) (j + 1) g ↔ (gapP (bagS C K) j g ∨ ∃ j', j' < j ∧ dst (bagS C K j) (bagS C K j') = g) := fun g => by
            refine ⟨fun ⟨u, v, h1, h2, h3⟩ => ?_, fun q => ?_⟩
            · rcases Nat.lt_or_ge u j with w | w
              · exact Or.inl ⟨u, v, h1, w, h3⟩
              · have e : u = j := by omega
                subst e
                exact Or.inr ⟨v, h1, h3⟩
            · rcases q with ⟨u, v, h1, h2, h3⟩ | ⟨v, h1, h3⟩
              · exact ⟨u, v, h1, by omega, h3⟩
              · exact ⟨j, v, h1, by omega, h3⟩
          rcases hb with q | ⟨g, e, e2, mn⟩
          · exact Or.inl ⟨q.1, fun g hg => q.2 g ((eP g).mp hg)⟩
          · exact Or.inr ⟨g, e, e2, (eP g).mpr mn.1, fun g' hg' => mn.2 g' ((eP g').mp hg')⟩
        | succ m ih2 =>
          intro j x hj hb
          apply hY
          unfold w_X12_margin_b36
          refine ⟨fun c => absurd c (nI_ge (by omega) (by omega)), fun _ => m_sumOf (set := i) t a ok (by omega) (m_sumOf (set := j) t a ok (by omega) ?_)⟩
          have hfi := hf i
          have hfj := hf j
          have e1 := n_toInt (n := bagS C K i) (by omega)
          have e2 := n_toInt (n := bagS C K j) (by omega)
          have es : (nI (bagS C K i) - nI (bagS C K j)).toInt = (bagS C K i : Int) - bagS C K j := by rw [t_sub (by rw [e1, e2]; omega) (by rw [e1, e2]; omega), e1, e2]
          have fin : ∀ d : Int32, d = nI (dst (bagS C K i) (bagS C K j)) → w_X12_margin_64 Q X Y x (nI i) (nI j) d h := by
            intro d ed
            subst ed
            have hd : dst (bagS C K i) (bagS C K j) ≤ 8991 := by unfold dst; omega
            have ed := n_toInt (n := dst (bagS C K i) (bagS C K j)) (by omega)
            have st : ∀ g, g < 100000 → g ≤ dst (bagS C K i) (bagS C K j) → (∀ g', (gapP (bagS C K) i g' ∨ ∃ j', j' < j ∧ dst (bagS C K i) (bagS C K j') = g') → g ≤ g') → (gapP (bagS C K) i g ∨ ∃ j', j' < j + 1 ∧ dst (bagS C K i) (bagS C K j') = g) → Y (nI g, nI (j + 1)) := by
              intro g hg1 hg2 hg3 hg4
              refine ih2 (j + 1) _ (by omega) (Or.inr ⟨g, rfl, hg1, hg4, fun g' hg' => ?_⟩)
              rcases hg' with q | ⟨j', h1, h2⟩
              · exact hg3 g' (Or.inl q)
              · rcases Nat.lt_or_ge j' j with w | w
                · exact hg3 g' (Or.inr ⟨j', w, h2⟩)
                · rw [show j' = j from by omega] at h2; omega
            unfold w_X12_margin_64
            rcases hb with q | ⟨g, e, e2, mn⟩
            · refine ⟨fun _ y ey => ?_, fun c => absurd (by rw [q.1]; decide) c⟩
              rw [← nI_succ] at ey
              subst ey
              refine st _ (by omega) (Nat.le_refl _) (fun g' hg' => absurd hg' (q.2 g')) (Or.inr ⟨j, by omega, rfl⟩)
            · subst e
              refine ⟨fun c => absurd c (nI_pos (by omega)), fun _ => ⟨fun c y ey => ?_, fun c y ey => ?_⟩⟩
              · rw [nI_leI (by omega) (by omega)] at c
                rw [← nI_succ] at ey
                subst ey
                refine st g (by omega) c mn.2 ?_
                rcases mn.1 with q | ⟨j', h1, h2⟩
                · exact Or.inl q
                · exact Or.inr ⟨j', by omega, h2⟩
              · rw [nI_leI (by omega) (by omega)] at c
                rw [← nI_succ] at ey
                subst ey
                refine st _ (by omega) (Nat.le_refl _) (fun g' hg' => ?_) (Or.inr ⟨j, by omega, rfl⟩)
                have := mn.2 g' hg'
                omega
          intro d ed
          refine ⟨fun c => fin d ?_, fun c d2 ed2 => fin d2 ?_⟩
          · rw [ed, t_le, z0, es] at c
            rw [ed]
            exact t_eq.mpr (by rw [es, n_toInt (by unfold dst; omega)]; unfold dst; omega)
          · rw [ed, t_le, z0, es] at c
            rw [ed2, ed]
            refine t_eq.mpr ?_
            rw [Int32.toInt_neg, es, bm32 (by omega) (by omega), n_toInt (by unfold dst; omega)]
            unfold dst
            omega
      refine key2 i 0 x (by omega) ?_
      rcases hb with q | ⟨g, e, e2, mn⟩
      · exact Or.inl ⟨q.1, fun g hg => by
          rcases hg with w | ⟨j', h1, _⟩
          · exact q.2 g w
          · omega⟩
      · exact Or.inr ⟨g, e, e2, Or.inl mn.1, fun g' hg' => by
          rcases hg' with w | ⟨j', h1, _⟩
          · exact mn.2 g' w
          · omega⟩
  exact key (2 ^ K) 0 (-1) (by omega) (Or.inl ⟨rfl, fun g ⟨u, v, h1, h2, _⟩ => by omega⟩)
