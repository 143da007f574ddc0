/-! the tokens of a tape: bytes f, n of them -/
theorem jb_id {z : Int32} (h1 : -128 ≤ z.toInt) (h2 : z.toInt ≤ 127) : jb z = z := by
  have e : jb z = z.toInt8.toInt32 := rfl
  refine t_eq.mpr ?_
  rw [e, Int8.toInt_toInt32, Int32.toInt_toInt8]
  exact Int.bmod_eq_of_le (by omega) (by omega)
/-- a byte without a sign -/
theorem and255 {z : Int32} (h1 : -128 ≤ z.toInt) (h2 : z.toInt ≤ 127) : (z &&& 255).toInt = if z.toInt < 0 then z.toInt + 256 else z.toInt := by
  have e : (z &&& 255).toBitVec.toNat = z.toBitVec.toNat % 256 := by
    rw [Int32.toBitVec_and, BitVec.toNat_and, show (255 : Int32).toBitVec.toNat = 2 ^ 8 - 1 from rfl]
    exact Nat.and_two_pow_sub_one_eq_mod _ _
  have hlt : z.toBitVec.toNat % 256 < 256 := Nat.mod_lt _ (by decide)
  have e2 : (z &&& 255).toInt = ((z.toBitVec.toNat % 256 : Nat) : Int) := by
    show (z &&& 255).toBitVec.toInt = _
    rw [BitVec.toInt_eq_toNat_of_lt (by rw [e]; omega), e]
  have e3 : z.toInt = if 2 * z.toBitVec.toNat < 2 ^ 32 then (z.toBitVec.toNat : Int) else (z.toBitVec.toNat : Int) - ((2 ^ 32 : Nat) : Int) := BitVec.toInt_eq_toNat_cond z.toBitVec
  rw [e2]
  have hz := z.toBitVec.isLt
  by_cases c : 2 * z.toBitVec.toNat < 2 ^ 32
  · rw [if_pos c] at e3
    rw [if_neg (by omega)]
    omega
  · rw [if_neg c] at e3
    rw [if_pos (by omega)]
    omega
def isBk (z : Int32) : Bool := decide (z.toInt = 9 ∨ z.toInt = 10 ∨ z.toInt = 13 ∨ z.toInt = 32)
def isLt (z : Int32) : Bool := decide (97 ≤ z.toInt ∧ z.toInt ≤ 122)
def isDg (z : Int32) : Bool := decide (48 ≤ z.toInt ∧ z.toInt ≤ 57)
theorem isBk_t {z : Int32} : isBk z = true ↔ (z.toInt = 9 ∨ z.toInt = 10 ∨ z.toInt = 13 ∨ z.toInt = 32) := decide_eq_true_iff
theorem isLt_t {z : Int32} : isLt z = true ↔ (97 ≤ z.toInt ∧ z.toInt ≤ 122) := decide_eq_true_iff
theorem isDg_t {z : Int32} : isDg z = true ↔ (48 ≤ z.toInt ∧ z.toInt ≤ 57) := decide_eq_true_iff
/-- where a run of bytes of a kind, from i on, has ended -/
def rn (p : Int32 → Bool) (f : Nat → Int32) (n i : Nat) : Nat := if _h : i < n ∧ p (f i) = true then rn p f n (i + 1) else i
termination_by n - i
decreasing_by omega
theorem rn_s {p : Int32 → Bool} {f : Nat → Int32} {n i : Nat} (h1 : i < n) (h2 : p (f i) = true) : rn p f n i = rn p f n (i + 1) := by
  rw [rn, dif_pos ⟨h1, h2⟩]
theorem rn_e {p : Int32 → Bool} {f : Nat → Int32} {n i : Nat} (h : ¬ (i < n ∧ p (f i) = true)) : rn p f n i = i := by
  rw [rn, dif_neg h]
theorem rn_spec (p : Int32 → Bool) (f : Nat → Int32) (n : Nat) : ∀ (m i : Nat), n - i = m → i ≤ rn p f n i ∧ (i ≤ n → rn p f n i ≤ n) ∧ (∀ k, i ≤ k → k < rn p f n i → k < n ∧ p (f k) = true) ∧ ¬ (rn p f n i < n ∧ p (f (rn p f n i)) = true) := by
  intro m
  induction m with
  | zero =>
    intro i hi
    have e : rn p f n i = i := rn_e (fun q => by omega)
    rw [e]
    exact ⟨Nat.le_refl _, fun q => q, fun k h1 h2 => by omega, fun q => by omega⟩
  | succ m ih =>
    intro i hi
    by_cases c : p (f i) = true
    · have e : rn p f n i = rn p f n (i + 1) := rn_s (by omega) c
      obtain ⟨g1, g2, g3, g4⟩ := ih (i + 1) (by omega)
      rw [e]
      refine ⟨by omega, fun _ => g2 (by omega), fun k h1 h2 => ?_, g4⟩
      by_cases k' : k = i
      · subst k'; exact ⟨by omega, c⟩
      · exact g3 k (by omega) h2
    · have e : rn p f n i = i := rn_e (fun q => c q.2)
      rw [e]
      exact ⟨Nat.le_refl _, fun q => q, fun k h1 h2 => by omega, fun q => c q.2⟩
def tEnd (f : Nat → Int32) (n i : Nat) : Nat := if isLt (f i) = true then rn isLt f n i else if isDg (f i) = true then rn isDg f n i else i + 1
/-- where the k-th token begins (n and more: there is none) -/
def pos (f : Nat → Int32) (n : Nat) : Nat → Nat
  | 0 => rn isBk f n 0
  | k + 1 => rn isBk f n (tEnd f n (pos f n k))
def cdF (f : Nat → Int32) (i : Nat) : Nat → Int64
  | 0 => 0
  | c + 1 => cdF f i c * 27 + ((f (i + c) - 97) + 1).toInt64
def dgF' (f : Nat → Int32) (i : Nat) : Nat → Int32
  | 0 => 0
  | c + 1 => dgF' f i c * 10 + (f (i + c) - 48)
def kwF (v : Int64) : Nat → Nat
  | 0 => 1
  | k + 1 => if wrd (16 - k) = v then 20 + (16 - k) else kwF v k
def sgF (z : Int32) : Nat := if z = 59 then 4 else if z = 61 then 5 else if z = 40 then 6 else if z = 41 then 7 else if z = 43 then 8 else if z = 45 then 9 else if z = 42 then 10 else if z = 60 then 13 else if z = 47 then 15 else 3
def tkK (f : Nat → Int32) (n i : Nat) : Nat := if isLt (f i) = true then (if rn isLt f n i - i ≤ 8 then kwF (cdF f i (rn isLt f n i - i)) 17 else 3) else if isDg (f i) = true then (if rn isDg f n i - i ≤ 4 then 2 else 3) else sgF (f i)
def tkV (f : Nat → Int32) (n i : Nat) : Int64 := if isLt (f i) = true then cdF f i (rn isLt f n i - i) else if isDg (f i) = true then (dgF' f i (rn isDg f n i - i)).toInt64 else 0
/-- the class's number of a kind -/
def cK (t : Nat) : Int32 := ([0, 2, 3, 1, 59, 61, 40, 41, 43, 45, 42, -11, -12, 60, -14, 47, -16, -17, -18, -19, 256, 257, 258, 259, 260, 261, 262, 263, 264, 265, 266, 267, 268, 269, 270, 271, 272] : List Int32).getD t (-1)
theorem cK_w {i : Nat} (h : i < 17) : cK (20 + i) = 256 + nI i := by
  have : ∀ i, i < 17 → cK (20 + i) = 256 + nI i := by decide +kernel
  exact this i h
theorem cK_sg {z : Int32} (n : ¬ sgF z = 3) : cK (sgF z) = z := by
  unfold sgF at n ⊢
  by_cases c59 : z = 59
  · subst c59; decide
  rw [if_neg c59] at n ⊢
  by_cases c61 : z = 61
  · subst c61; decide
  rw [if_neg c61] at n ⊢
  by_cases c40 : z = 40
  · subst c40; decide
  rw [if_neg c40] at n ⊢
  by_cases c41 : z = 41
  · subst c41; decide
  rw [if_neg c41] at n ⊢
  by_cases c43 : z = 43
  · subst c43; decide
  rw [if_neg c43] at n ⊢
  by_cases c45 : z = 45
  · subst c45; decide
  rw [if_neg c45] at n ⊢
  by_cases c42 : z = 42
  · subst c42; decide
  rw [if_neg c42] at n ⊢
  by_cases c60 : z = 60
  · subst c60; decide
  rw [if_neg c60] at n ⊢
  by_cases c47 : z = 47
  · subst c47; decide
  rw [if_neg c47] at n ⊢
  exact absurd rfl n
def cTk (h : hp) (f : Nat → Int32) (n c : Nat) : Prop := c ≤ 401 ∧ (∀ k, k < c → pos f n k < n ∧ gI h 4 k = cK (tkK f n (pos f n k)) ∧ gI h 5 k = nI (pos f n k) ∧ gL h 6 k = tkV f n (pos f n k)) ∧ (c ≤ 400 → n ≤ pos f n c) ∧ gI h 4 c = 0 ∧ gI h 5 c = nI n
def mTk (h : hp) (f : Nat → Int32) (n c : Nat) : Prop := c ≤ 401 ∧ (∀ k, k < c → pos f n k < n ∧ gI h 3 k = nI (tkK f n (pos f n k)) ∧ gI h 4 k = nI (pos f n k) ∧ (tkK f n (pos f n k) = 2 → gI h 5 k = (tkV f n (pos f n k)).toInt32) ∧ (tkK f n (pos f n k) = 1 → gL h 6 k = tkV f n (pos f n k))) ∧ (c ≤ 400 → n ≤ pos f n c ∧ gI h 3 c = 0 ∧ gI h 4 c = nI n)
/-! the class cuts -/
theorem c_isBlank {z : Int32} {Q : Int32 → Prop} (hq1 : isBk z = true → Q 1) (hq0 : ¬ isBk z = true → Q 0) : w_X8_isBlank z Q := by
  unfold w_X8_isBlank w_X8_isBlank_0
  have e9 : z = 9 ↔ z.toInt = 9 := t_eq
  have e10 : z = 10 ↔ z.toInt = 10 := t_eq
  have e13 : z = 13 ↔ z.toInt = 13 := t_eq
  have e32 : z = 32 ↔ z.toInt = 32 := t_eq
  exact ⟨fun c => hq1 (isBk_t.mpr (Or.inl (e9.mp c))), fun n9 => ⟨fun c => hq1 (isBk_t.mpr (Or.inr (Or.inl (e10.mp c)))), fun n10 => ⟨fun c => hq1 (isBk_t.mpr (Or.inr (Or.inr (Or.inl (e13.mp c))))), fun n13 => ⟨fun n32 => hq0 (fun q => by
    rcases isBk_t.mp q with q | q | q | q
    · exact n9 (e9.mpr q)
    · exact n10 (e10.mpr q)
    · exact n13 (e13.mpr q)
    · exact n32 (e32.mpr q)), fun c => hq1 (isBk_t.mpr (Or.inr (Or.inr (Or.inr (e32.mp c)))))⟩⟩⟩⟩
theorem m_isLetter {z : Int32} {Q : Int32 → Prop} (hq1 : isLt z = true → Q 1) (hq0 : ¬ isLt z = true → Q 0) : w_X12_isLetter z Q := by
  unfold w_X12_isLetter w_X12_isLetter_0
  have e1 : (97 : Int32).toInt = 97 := rfl
  have e2 : (122 : Int32).toInt = 122 := rfl
  rw [t_lt, t_lt, e1, e2]
  exact ⟨fun c => hq0 (fun q => by have := isLt_t.mp q; omega), fun c => ⟨fun d => hq0 (fun q => by have := isLt_t.mp q; omega), fun d => hq1 (isLt_t.mpr ⟨by omega, by omega⟩)⟩⟩
theorem c_isLetter {z : Int32} {Q : Int32 → Prop} (hq1 : isLt z = true → Q 1) (hq0 : ¬ isLt z = true → Q 0) : w_X8_isLetter z Q := m_isLetter hq1 hq0
theorem m_isDigit {z : Int32} {Q : Int32 → Prop} (hq1 : isDg z = true → Q 1) (hq0 : ¬ isDg z = true → Q 0) : w_X12_isDigit z Q := by
  unfold w_X12_isDigit w_X12_isDigit_0
  have e1 : (48 : Int32).toInt = 48 := rfl
  have e2 : (57 : Int32).toInt = 57 := rfl
  rw [t_lt, t_lt, e1, e2]
  exact ⟨fun c => hq0 (fun q => by have := isDg_t.mp q; omega), fun c => ⟨fun d => hq0 (fun q => by have := isDg_t.mp q; omega), fun d => hq1 (isDg_t.mpr ⟨by omega, by omega⟩)⟩⟩
theorem c_isDigit {z : Int32} {Q : Int32 → Prop} (hq1 : isDg z = true → Q 1) (hq0 : ¬ isDg z = true → Q 0) : w_X8_isDigit z Q := m_isDigit hq1 hq0
theorem c_isSign {z : Int32} {Q : Int32 → Prop} (hq1 : ¬ sgF z = 3 → Q 1) (hq0 : sgF z = 3 → Q 0) : w_X8_isSign z Q := by
  unfold w_X8_isSign w_X8_isSign_0
  intro sw e
  subst e
  refine ⟨?_, ?_, ?_, ?_, ?_, ?_, ?_, ?_, ?_, ?_, ?_, ?_, ?_, ?_, ?_, ?_, ?_, ?_, ?_, ?_, ?_, ?_, ?_⟩
  all_goals first
    | (intro c; subst c; exact hq1 (by decide))
    | (intro c; subst c; exact hq0 (by decide))
    | skip
  intro c
  refine hq0 ?_
  have g : ∀ v : Int32, 40 ≤ v.toInt → v.toInt ≤ 61 → ¬ sw = v := fun v h1 h2 q => by subst q; omega
  unfold sgF
  rw [if_neg (g _ (by decide) (by decide)), if_neg (g _ (by decide) (by decide)), if_neg (g _ (by decide) (by decide)), if_neg (g _ (by decide) (by decide)), if_neg (g _ (by decide) (by decide)), if_neg (g _ (by decide) (by decide)), if_neg (g _ (by decide) (by decide)), if_neg (g _ (by decide) (by decide)), if_neg (g _ (by decide) (by decide))]
theorem c_kindOf {h : hp} {v : Int64} {Q : Int32 → Prop} (hw : ∀ i, i < 17 → gL h 7 i = wrd i) (hq : Q (cK (kwF v 17))) : w_X8_kindOf h v Q := by
  unfold w_X8_kindOf w_X8_kindOf_0 w_X8_kindOf_2
  intro X hX
  have key : ∀ m, m ≤ 17 → Q (cK (kwF v m)) → X (nI (17 - m)) := by
    intro m
    induction m with
    | zero =>
      intro _ hq
      apply hX
      exact ⟨fun _ => hq, fun c => absurd (by decide) c⟩
    | succ m ih =>
      intro hm hq
      apply hX
      refine ⟨fun c => absurd c (nI_ge (a := 17 - (m + 1)) (b := 17) (by omega) (by omega)), fun _ => ⟨in_n (by omega) (by omega), ?_⟩⟩
      rw [ix_n (by omega), hw _ (by omega), show 17 - (m + 1) = 16 - m from by omega]
      unfold kwF at hq
      refine ⟨fun c x ex => ?_, fun c => ?_⟩
      · rw [if_neg c] at hq
        rw [← nI_succ, show 16 - m + 1 = 17 - m from by omega] at ex
        subst ex
        exact ih (by omega) hq
      · rw [if_pos c, cK_w (by omega)] at hq
        exact hq
  exact key 17 (Nat.le_refl _) hq
def cutS (a j : Nat) : Prop := a = 4 ∨ a = 5 ∨ a = 6 ∨ (a = 3 ∧ j = 4)
def tkPut (h : hp) (m : Nat) (k : Int32) (i : Nat) (v : Int64) : hp := sI (sL (sI (sI h 4 m k) 5 m (nI i)) 6 m v) 3 4 (nI (m + 1))
theorem c_tkAdd {h : hp} {m i : Nat} {k : Int32} {v : Int64} {Q : hp → Prop} (e : gI h 3 4 = nI m) (hm : m < 401) (hq : Q (tkPut h m k i v)) : w_X8_add h k (nI i) v Q := by
  unfold w_X8_add w_X8_add_0
  rw [e]
  refine ⟨fun c => absurd c (nI_ge (a := m) (b := 401) (by omega) (by omega)), fun _ => ⟨in_n (by omega) (by omega), fun h2 e2 => ?_⟩⟩
  rw [ix_n (by omega)] at e2
  subst e2
  rw [gI_o _ _ (by decide), e]
  refine ⟨in_n (by omega) (by omega), fun h3 e3 => ?_⟩
  rw [ix_n (by omega)] at e3
  subst e3
  rw [gI_o _ _ (by decide), gI_o _ _ (by decide), e]
  refine ⟨in_n (by omega) (by omega), fun h4 e4 h5 e5 => ?_⟩
  rw [ix_n (by omega)] at e4
  subst e4
  rw [gI_sL, gI_o _ _ (by decide), gI_o _ _ (by decide), e, ← nI_succ] at e5
  subst e5
  exact hq
theorem c_cutName {h : hp} {f : Nat → Int32} {n i m : Nat} {Q : Int32 → hp → Prop} (a : aTape 1 h n f) (hw : ∀ i, i < 17 → gL h 7 i = wrd i) (e : gI h 3 4 = nI m) (hm : m < 401) (hi : i < n) (hq : Q (nI (rn isLt f n i)) (tkPut h m (cK (if rn isLt f n i - i ≤ 8 then kwF (cdF f i (rn isLt f n i - i)) 17 else 3)) i (cdF f i (rn isLt f n i - i)))) : w_X8_cutName 1 2000 h (nI n) (nI i) Q := by
  unfold w_X8_cutName w_X8_cutName_0 w_X8_cutName_6
  have hn := a.2.1
  intro X hX
  have out : ∀ j, i ≤ j → j ≤ n → rn isLt f n i = j → w_X8_cutName_39 1 2000 Q (nI i) (nI j) (cdF f i (j - i)) h := fun j h1 h2 ej => by
    rw [ej] at hq
    unfold w_X8_cutName_39 w_X8_cutName_59
    rw [nI_sub h1 (by omega)]
    refine ⟨fun c => ?_, fun c => ?_⟩
    · have c' : j - i ≤ 8 := (nI_leI (a := j - i) (b := 8) (by omega) (by omega)).mp c
      rw [if_pos c'] at hq
      exact c_kindOf hw (c_tkAdd e hm hq)
    · have c' : ¬ j - i ≤ 8 := fun q => c ((nI_leI (a := j - i) (b := 8) (by omega) (by omega)).mpr q)
      rw [if_neg c'] at hq
      exact c_tkAdd e hm hq
  have key : ∀ q j, n - j = q → i ≤ j → j ≤ n → rn isLt f n i = rn isLt f n j → X (nI j, cdF f i (j - i)) := by
    intro q
    induction q with
    | zero =>
      intro j hj h1 h2 er
      apply hX
      refine ⟨fun _ => out j h1 h2 (by rw [er]; exact rn_e (fun z => by omega)), fun c => absurd (nI_le (by omega) (by omega)) c⟩
    | succ q ih =>
      intro j hj h1 h2 er
      apply hX
      refine ⟨fun c => absurd c (nI_ge (by omega) (by omega)), fun _ => ⟨in_n (by omega) (by omega), ?_⟩⟩
      show w_X8_isLetter (gI h 1 (ix (nI j))) _
      rw [ix_n (by omega), a.2.2 j (by omega)]
      refine c_isLetter (fun c => ⟨fun z => absurd z (by decide), fun _ => ⟨in_n (by omega) (by omega), ?_⟩⟩) (fun c => ⟨fun _ => out j h1 h2 (by rw [er]; exact rn_e (fun z => c z.2)), fun z => absurd rfl z⟩)
      unfold w_X8_withLetter w_X8_withLetter_0
      intro x ex
      rw [← nI_succ] at ex
      subst ex
      have := ih (j + 1) (by omega) (by omega) (by omega) (by rw [er]; exact rn_s (by omega) c)
      rw [show j + 1 - i = (j - i) + 1 from by omega] at this
      unfold cdF at this
      rw [show i + (j - i) = j from by omega] at this
      exact this
  have := key (n - i) i rfl (Nat.le_refl _) (by omega) rfl
  rw [Nat.sub_self] at this
  exact this
theorem c_cutInt {h : hp} {f : Nat → Int32} {n i m : Nat} {Q : Int32 → hp → Prop} (a : aTape 1 h n f) (e : gI h 3 4 = nI m) (hm : m < 401) (hi : i < n) (hq : Q (nI (rn isDg f n i)) (tkPut h m (cK (if rn isDg f n i - i ≤ 4 then 2 else 3)) i (dgF' f i (rn isDg f n i - i)).toInt64)) : w_X8_cutInt 1 2000 h (nI n) (nI i) Q := by
  unfold w_X8_cutInt w_X8_cutInt_0 w_X8_cutInt_6
  have hn := a.2.1
  intro X hX
  have out : ∀ j, i ≤ j → j ≤ n → rn isDg f n i = j → w_X8_cutInt_43 1 2000 Q (nI i) (nI j) (dgF' f i (j - i)) h := fun j h1 h2 ej => by
    rw [ej] at hq
    unfold w_X8_cutInt_43 w_X8_cutInt_57
    rw [nI_sub h1 (by omega)]
    refine ⟨fun c => ?_, fun c => ?_⟩
    · have c' : j - i ≤ 4 := (nI_leI (a := j - i) (b := 4) (by omega) (by omega)).mp c
      rw [if_pos c'] at hq
      exact c_tkAdd e hm hq
    · have c' : ¬ j - i ≤ 4 := fun q => c ((nI_leI (a := j - i) (b := 4) (by omega) (by omega)).mpr q)
      rw [if_neg c'] at hq
      exact c_tkAdd e hm hq
  have key : ∀ q j, n - j = q → i ≤ j → j ≤ n → rn isDg f n i = rn isDg f n j → X (nI j, dgF' f i (j - i)) := by
    intro q
    induction q with
    | zero =>
      intro j hj h1 h2 er
      apply hX
      refine ⟨fun _ => out j h1 h2 (by rw [er]; exact rn_e (fun z => by omega)), fun c => absurd (nI_le (by omega) (by omega)) c⟩
    | succ q ih =>
      intro j hj h1 h2 er
      apply hX
      refine ⟨fun c => absurd c (nI_ge (by omega) (by omega)), fun _ => ⟨in_n (by omega) (by omega), ?_⟩⟩
      show w_X8_isDigit (gI h 1 (ix (nI j))) _
      rw [ix_n (by omega), a.2.2 j (by omega)]
      refine c_isDigit (fun c => ⟨fun z => absurd z (by decide), fun _ => ⟨in_n (by omega) (by omega), fun y ey x ex => ?_⟩⟩) (fun c => ⟨fun _ => out j h1 h2 (by rw [er]; exact rn_e (fun z => c z.2)), fun z => absurd rfl z⟩)
      rw [← nI_succ] at ex
      subst ex ey
      have := ih (j + 1) (by omega) (by omega) (by omega) (by rw [er]; exact rn_s (by omega) c)
      rw [show j + 1 - i = (j - i) + 1 from by omega] at this
      unfold dgF' at this
      rw [show i + (j - i) = j from by omega] at this
      exact this
  have := key (n - i) i rfl (Nat.le_refl _) (by omega) rfl
  rw [Nat.sub_self] at this
  exact this
theorem tEnd_le {f : Nat → Int32} {n i : Nat} (hi : i < n) : i < tEnd f n i ∧ tEnd f n i ≤ n := by
  unfold tEnd
  by_cases c : isLt (f i) = true
  · rw [if_pos c, rn_s hi c]
    have := rn_spec isLt f n _ (i + 1) rfl
    exact ⟨by have := this.1; omega, this.2.1 (by omega)⟩
  · rw [if_neg c]
    by_cases d : isDg (f i) = true
    · rw [if_pos d, rn_s hi d]
      have := rn_spec isDg f n _ (i + 1) rfl
      exact ⟨by have := this.1; omega, this.2.1 (by omega)⟩
    · rw [if_neg d]; omega
theorem c_cutOne {h : hp} {f : Nat → Int32} {n i m : Nat} {Q : Int32 → hp → Prop} (a : aTape 1 h n f) (hw : ∀ i, i < 17 → gL h 7 i = wrd i) (e : gI h 3 4 = nI m) (hm : m < 401) (hi : i < n) (hq : Q (nI (tEnd f n i)) (tkPut h m (cK (tkK f n i)) i (tkV f n i))) : w_X8_cutOne 1 2000 h (nI n) (nI i) Q := by
  unfold w_X8_cutOne w_X8_cutOne_0
  have hn := a.2.1
  refine ⟨in_n (by omega) (by omega), fun y ey => ?_⟩
  rw [ix_n (by omega), a.2.2 i hi] at ey
  subst ey
  unfold tEnd tkK tkV at hq
  refine c_isLetter (fun c => ⟨fun z => absurd z (by decide), fun _ => ?_⟩) (fun c => ⟨fun _ => ?_, fun z => absurd rfl z⟩)
  · rw [if_pos c, if_pos c, if_pos c] at hq
    exact c_cutName a hw e hm hi hq
  · rw [if_neg c, if_neg c, if_neg c] at hq
    refine c_isDigit (fun d => ⟨fun z => absurd z (by decide), fun _ => ?_⟩) (fun d => ⟨fun _ => ?_, fun z => absurd rfl z⟩)
    · rw [if_pos d, if_pos d, if_pos d] at hq
      exact c_cutInt a e hm hi hq
    · rw [if_neg d, if_neg d, if_neg d] at hq
      refine c_isSign (fun g => ⟨fun z => absurd z (by decide), fun _ => ?_⟩) (fun g => ⟨fun _ => ?_, fun z => absurd rfl z⟩)
      · rw [cK_sg g, nI_succ] at hq
        exact c_tkAdd e hm hq
      · rw [g, nI_succ] at hq
        exact c_tkAdd e hm hq
def entC (h : hp) (f : Nat → Int32) (n m : Nat) : Prop := ∀ k, k < m → pos f n k < n ∧ gI h 4 k = cK (tkK f n (pos f n k)) ∧ gI h 5 k = nI (pos f n k) ∧ gL h 6 k = tkV f n (pos f n k)
theorem tkPut_4 {h : hp} {m i j : Nat} {k : Int32} {v : Int64} : gI (tkPut h m k i v) 4 j = if j = m then k else gI h 4 j := by
  simp [tkPut, gI_sI, gI_sL]
theorem tkPut_5 {h : hp} {m i j : Nat} {k : Int32} {v : Int64} : gI (tkPut h m k i v) 5 j = if j = m then nI i else gI h 5 j := by
  simp [tkPut, gI_sI, gI_sL]
theorem tkPut_6 {h : hp} {m i j : Nat} {k : Int32} {v : Int64} : gL (tkPut h m k i v) 6 j = if j = m then v else gL h 6 j := by
  simp [tkPut, gL_sI, gL_sL]
theorem entC_put {h : hp} {f : Nat → Int32} {n m : Nat} (a : entC h f n m) (hp1 : pos f n m < n) : entC (tkPut h m (cK (tkK f n (pos f n m))) (pos f n m) (tkV f n (pos f n m))) f n (m + 1) := fun k hk => by
  rw [tkPut_4, tkPut_5, tkPut_6]
  by_cases c : k = m
  · subst c
    rw [if_pos rfl, if_pos rfl, if_pos rfl]
    exact ⟨hp1, rfl, rfl, rfl⟩
  · rw [if_neg c, if_neg c, if_neg c]
    exact a k (by omega)
theorem tkPut_e {h : hp} {m i : Nat} {k : Int32} {v : Int64} : eqE cutS h (tkPut h m k i v) := eqE_sI (eqE_sL (eqE_sI (eqE_sI (eqE_refl h) (Or.inl rfl)) (Or.inr (Or.inl rfl))) (Or.inr (Or.inr (Or.inl rfl)))) (Or.inr (Or.inr (Or.inr ⟨rfl, rfl⟩)))
theorem aTape_e {d : Nat} {h h1 : hp} {n : Nat} {f : Nat → Int32} {P : Nat → Nat → Prop} (e : eqE P h h1) (n0 : ¬ P 0 d) (n1 : ∀ j, ¬ P 1 j) (a : aTape d h n f) : aTape d h1 n f := ⟨by rw [eqE_I e n0]; exact a.1, a.2.1, fun k hk => by rw [eqE_I e (n1 k)]; exact a.2.2 k hk⟩
theorem c_cut {h : hp} {f : Nat → Int32} {n : Nat} {Q : hp → Prop} (a : aTape 1 h n f) (hw : ∀ i, i < 17 → gL h 7 i = wrd i) (hq : ∀ h1 c, eqE cutS h h1 → cTk h1 f n c → Q h1) : w_X8_cut 1 2000 h (nI n) Q := by
  unfold w_X8_cut w_X8_cut_0
  intro h1 e1
  have hn := a.2.1
  unfold w_X8_cut_10
  intro X hX
  have out : ∀ m h2, m ≤ 401 → eqE cutS h h2 → gI h2 3 4 = nI m → entC h2 f n m → (m ≤ 400 → n ≤ pos f n m) → w_X8_cut_61 1 2000 Q (nI n) h2 := fun m h2 hm ee em ent hp1 => by
    unfold w_X8_cut_61
    rw [em]
    refine ⟨in_n (by omega) (by omega), fun h3 e3 => ?_⟩
    rw [ix_n (by omega)] at e3
    subst e3
    rw [gI_o _ _ (by decide), em]
    refine ⟨in_n (by omega) (by omega), fun h4 e4 => ?_⟩
    rw [ix_n (by omega)] at e4
    subst e4
    refine hq _ m (eqE_sI (eqE_sI ee (Or.inl rfl)) (Or.inr (Or.inl rfl))) ⟨hm, fun k hk => ?_, hp1, ?_, ?_⟩
    · obtain ⟨a1, a2, a3, a4⟩ := ent k hk
      rw [gI_o _ _ (by decide), gI_k _ _ (by omega), gI_k _ _ (by omega), gI_o _ _ (by decide), gL_sI, gL_sI]
      exact ⟨a1, a2, a3, a4⟩
    · rw [gI_o _ _ (by decide), gI_at]
    · rw [gI_at]
  have key : ∀ q b t m h2, n - t = q → t ≤ n → b ≤ n → m ≤ 401 → eqE cutS h h2 → gI h2 3 4 = nI m → entC h2 f n m → rn isBk f n (max t b) = pos f n m → X (nI b, nI t, h2) := by
    intro q
    induction q with
    | zero =>
      intro b t m h2 hq1 ht hb hm ee em ent hp1
      apply hX
      refine ⟨fun _ => out m h2 hm ee em ent (fun _ => ?_), fun c => absurd (nI_le (by omega) (by omega)) c⟩
      have := (rn_spec isBk f n _ (max t b) rfl).1
      omega
    | succ q ih =>
      intro b t m h2 hq1 ht hb hm ee em ent hp1
      apply hX
      refine ⟨fun c => absurd c (nI_ge (by omega) (by omega)), fun _ => ⟨fun c => ?_, fun c => ⟨in_n (by omega) (by omega), fun y ey => ?_⟩⟩⟩
      · have c : (401 : Int32) ≤ gI h2 3 4 := c
        rw [em] at c
        have c' : 401 ≤ m := (nI_leI (a := 401) (b := m) (by omega) (by omega)).mp c
        exact out m h2 hm ee em ent (fun z => by omega)
      · have c : ¬ (401 : Int32) ≤ gI h2 3 4 := c
        rw [em] at c
        have hm' : m < 401 := by
          refine Nat.lt_of_not_le (fun z => c ?_)
          exact (nI_leI (a := 401) (b := m) (by omega) (by omega)).mpr z
        have a2 : aTape 1 h2 n f := aTape_e ee (by unfold cutS; omega) (by unfold cutS; omega) a
        have ey : y = f t := by rw [ey]; show gI h2 1 (ix (nI t)) = _; rw [ix_n (by omega), a2.2.2 t (by omega)]
        subst ey
        refine ⟨fun c2 x ex => ?_, fun c2 => c_isBlank (fun bl => ⟨fun _ x ex => ?_, fun z => absurd z (by decide)⟩) (fun bl => ⟨fun z => absurd rfl z, fun _ => ?_⟩)⟩
        · have c2 : t < b := by
            have c2 : nI t < nI b := c2
            refine Nat.lt_of_not_le (fun z => ?_)
            exact absurd c2 (Int32.not_lt.mpr (nI_le z (by omega)))
          rw [← nI_succ] at ex
          subst ex
          exact ih b (t + 1) m h2 (by omega) (by omega) hb hm ee em ent (by rw [show max (t + 1) b = max t b from by omega]; exact hp1)
        · have c2 : b ≤ t := by
            have c2 : ¬ nI t < nI b := c2
            refine Nat.le_of_not_lt (fun z => c2 (nI_lt z (by omega)))
          rw [← nI_succ] at ex
          subst ex
          refine ih b (t + 1) m h2 (by omega) (by omega) hb hm ee em ent ?_
          rw [show max (t + 1) b = t + 1 from by omega, ← rn_s (by omega) bl, ← hp1, show max t b = t from by omega]
        · have c2 : b ≤ t := by
            have c2 : ¬ nI t < nI b := c2
            refine Nat.le_of_not_lt (fun z => c2 (nI_lt z (by omega)))
          have ept : pos f n m = t := by
            rw [← hp1, show max t b = t from by omega]
            exact rn_e (fun z => bl z.2)
          have ht2 := tEnd_le (f := f) (n := n) (i := t) (by omega)
          refine c_cutOne a2 (fun i hi => by rw [eqE_L ee (by unfold cutS; omega)]; exact hw i hi) em hm' (by omega) (fun x ex => ?_)
          rw [← nI_succ] at ex
          subst ex
          refine ih (tEnd f n t) (t + 1) (m + 1) _ (by omega) (by omega) ht2.2 (by omega) (eqE_trans ee tkPut_e) (gI_at _ _ _ _) ?_ ?_
          · rw [← ept]
            exact entC_put ent (by omega)
          · rw [show max (t + 1) (tEnd f n t) = tEnd f n t from by omega]
            show _ = rn isBk f n (tEnd f n (pos f n m))
            rw [ept]
  subst e1
  exact key n 0 0 0 _ rfl (by omega) (by omega) (by omega) (eqE_sI (eqE_refl h) (Or.inr (Or.inr (Or.inr ⟨rfl, rfl⟩)))) (gI_at _ _ _ _) (fun k hk => by omega) rfl
/-! the reference cuts -/
def aText (h : hp) (n : Nat) (f : Nat → Int32) : Prop := gI h 0 4 = nI n ∧ n ≤ 2000 ∧ ∀ k, k < n → gI h 2 k = f k
theorem z255 {z : Int32} (h1 : -128 ≤ z.toInt) (h2 : z.toInt ≤ 127) (h : 0 ≤ z.toInt) : z &&& 255 = z := t_eq.mpr (by rw [and255 h1 h2, if_neg (by omega)])
theorem n255 {z v : Int32} (h1 : -128 ≤ z.toInt) (h2 : z.toInt ≤ 127) (hv : 0 ≤ v.toInt) (hv2 : v.toInt ≤ 127) : z &&& 255 = v ↔ z = v := by
  rw [t_eq, t_eq (x := z), and255 h1 h2]
  by_cases c : z.toInt < 0
  · rw [if_pos c]; omega
  · rw [if_neg c]
theorem lt255 {z : Int32} (h1 : -128 ≤ z.toInt) (h2 : z.toInt ≤ 127) : isLt (z &&& 255) = true ↔ isLt z = true := by
  rw [isLt_t, isLt_t, and255 h1 h2]
  by_cases c : z.toInt < 0
  · rw [if_pos c]; omega
  · rw [if_neg c]
theorem dg255 {z : Int32} (h1 : -128 ≤ z.toInt) (h2 : z.toInt ≤ 127) : isDg (z &&& 255) = true ↔ isDg z = true := by
  rw [isDg_t, isDg_t, and255 h1 h2]
  by_cases c : z.toInt < 0
  · rw [if_pos c]; omega
  · rw [if_neg c]
theorem sg255 {z : Int32} (h1 : -128 ≤ z.toInt) (h2 : z.toInt ≤ 127) : sgF (z &&& 255) = sgF z := by
  unfold sgF
  simp only [n255 h1 h2 (v := 59) (by decide) (by decide), n255 h1 h2 (v := 61) (by decide) (by decide), n255 h1 h2 (v := 40) (by decide) (by decide), n255 h1 h2 (v := 41) (by decide) (by decide), n255 h1 h2 (v := 43) (by decide) (by decide), n255 h1 h2 (v := 45) (by decide) (by decide), n255 h1 h2 (v := 42) (by decide) (by decide), n255 h1 h2 (v := 60) (by decide) (by decide), n255 h1 h2 (v := 47) (by decide) (by decide)]
theorem m_byteAt {h : hp} {n i : Nat} {f : Nat → Int32} {Q : Int32 → Prop} (a : aText h n f) (hi : i < 2147483648) (hq1 : i < n → Q (f i &&& 255)) (hq0 : n ≤ i → Q 0) : w_X12_byteAt h (nI i) Q := by
  unfold w_X12_byteAt w_X12_byteAt_0
  have hn := a.2.1
  rw [a.1]
  refine ⟨fun c => hq0 ((nI_leI (by omega) (by omega)).mp c), fun c => ?_⟩
  have hi : i < n := Nat.lt_of_not_le (fun z => c ((nI_leI (by omega) (by omega)).mpr z))
  refine ⟨in_n (by omega) (by omega), ?_⟩
  rw [ix_n (by omega), a.2.2 i hi]
  exact hq1 hi
def mkPut (h : hp) (m : Nat) (k : Int32) (i : Nat) (v : Int32) (w : Int64) : hp := sI (sL (sI (sI (sI h 3 m k) 4 m (nI i)) 5 m v) 6 m w) 0 10 (nI (m + 1))
theorem m_token {h : hp} {m i : Nat} {k v : Int32} {w : Int64} {Q : hp → Prop} (e : gI h 0 10 = nI m) (hm : m < 403) (hq : Q (mkPut h m k i v w)) : w_X12_token h k (nI i) v w Q := by
  unfold w_X12_token w_X12_token_0
  rw [e]
  refine ⟨in_n (by omega) (by omega), fun h2 e2 => ?_⟩
  rw [ix_n (by omega)] at e2
  subst e2
  rw [gI_o _ _ (by decide), e]
  refine ⟨in_n (by omega) (by omega), fun h3 e3 => ?_⟩
  rw [ix_n (by omega)] at e3
  subst e3
  rw [gI_o _ _ (by decide), gI_o _ _ (by decide), e]
  refine ⟨in_n (by omega) (by omega), fun h4 e4 => ?_⟩
  rw [ix_n (by omega)] at e4
  subst e4
  rw [gI_o _ _ (by decide), gI_o _ _ (by decide), gI_o _ _ (by decide), e]
  refine ⟨in_n (by omega) (by omega), fun h5 e5 h6 e6 => ?_⟩
  rw [ix_n (by omega)] at e5
  subst e5
  rw [gI_sL, gI_o _ _ (by decide), gI_o _ _ (by decide), gI_o _ _ (by decide), e, ← nI_succ] at e6
  subst e6
  exact hq
theorem mkPut_3 {h : hp} {m i j : Nat} {k v : Int32} {w : Int64} : gI (mkPut h m k i v w) 3 j = if j = m then k else gI h 3 j := by
  simp [mkPut, gI_sI, gI_sL]
theorem mkPut_4 {h : hp} {m i j : Nat} {k v : Int32} {w : Int64} : gI (mkPut h m k i v w) 4 j = if j = m then nI i else gI h 4 j := by
  simp [mkPut, gI_sI, gI_sL]
theorem mkPut_5 {h : hp} {m i j : Nat} {k v : Int32} {w : Int64} : gI (mkPut h m k i v w) 5 j = if j = m then v else gI h 5 j := by
  simp [mkPut, gI_sI, gI_sL]
theorem mkPut_6 {h : hp} {m i j : Nat} {k v : Int32} {w : Int64} : gL (mkPut h m k i v w) 6 j = if j = m then w else gL h 6 j := by
  simp [mkPut, gL_sI, gL_sL]
def cutM (a j : Nat) : Prop := a = 3 ∨ a = 4 ∨ a = 5 ∨ a = 6 ∨ (a = 0 ∧ j = 10)
theorem mkPut_e {h : hp} {m i : Nat} {k v : Int32} {w : Int64} : eqE cutM h (mkPut h m k i v w) := eqE_sI (eqE_sL (eqE_sI (eqE_sI (eqE_sI (eqE_refl h) (by unfold cutM; omega)) (by unfold cutM; omega)) (by unfold cutM; omega)) (by unfold cutM; omega)) (by unfold cutM; omega)
theorem m_sign {h : hp} {m i : Nat} {x y : Int32} {Q : Int32 → hp → Prop} (e : gI h 0 10 = nI m) (hm : m < 403) (hq : Q 1 (mkPut h m (nI (sgF x)) i 0 0)) : w_X12_sign h (nI i) x y Q := by
  have fin : ∀ k : Int32, k = nI (sgF x) → w_X12_sign_95 Q (nI i) k h := fun k ek => by
    subst ek
    unfold w_X12_sign_95
    exact m_token e hm hq
  have f85 : ∀ k : Int32, (¬ x = 60 → k = nI (sgF x)) → w_X12_sign_85 Q (nI i) x k h := fun k ek => by
    unfold w_X12_sign_85
    refine ⟨fun c => fin _ (ek c), fun c => fin _ ?_⟩
    subst c; decide
  have f75 : ∀ k : Int32, (¬ x = 60 → ¬ x = 47 → k = nI (sgF x)) → w_X12_sign_75 Q (nI i) x k h := fun k ek => by
    unfold w_X12_sign_75
    refine ⟨fun c => f85 _ (fun d => ek d c), fun c => f85 _ (fun _ => ?_)⟩
    subst c; decide
  have f65 : ∀ k : Int32, (¬ x = 60 → ¬ x = 47 → ¬ x = 42 → k = nI (sgF x)) → w_X12_sign_65 Q (nI i) x k h := fun k ek => by
    unfold w_X12_sign_65
    refine ⟨fun c => f75 _ (fun d d2 => ek d d2 c), fun c => f75 _ (fun _ _ => ?_)⟩
    subst c; decide
  have f55 : ∀ k : Int32, (¬ x = 60 → ¬ x = 47 → ¬ x = 42 → ¬ x = 45 → k = nI (sgF x)) → w_X12_sign_55 Q (nI i) x k h := fun k ek => by
    unfold w_X12_sign_55
    refine ⟨fun c => f65 _ (fun d d2 d3 => ek d d2 d3 c), fun c => f65 _ (fun _ _ _ => ?_)⟩
    subst c; decide
  have f43 : ∀ k : Int32, (¬ x = 60 → ¬ x = 47 → ¬ x = 42 → ¬ x = 45 → ¬ x = 43 → k = nI (sgF x)) → w_X12_sign_43 Q (nI i) x h k := fun k ek => by
    unfold w_X12_sign_43
    refine ⟨fun c => f55 _ (fun d d2 d3 d4 => ek d d2 d3 d4 c), fun c => f55 _ (fun _ _ _ _ => ?_)⟩
    subst c; decide
  unfold w_X12_sign w_X12_sign_0
  refine ⟨fun n59 => ⟨fun n61 => ⟨fun n40 => ⟨fun n41 => f43 _ (fun n60 n47 n42 n45 n43 => ?_), fun c => f43 _ (fun _ _ _ _ _ => ?_)⟩, fun c => f43 _ (fun _ _ _ _ _ => ?_)⟩, fun c => f43 _ (fun _ _ _ _ _ => ?_)⟩, fun c => f43 _ (fun _ _ _ _ _ => ?_)⟩
  · unfold sgF
    rw [if_neg n59, if_neg n61, if_neg n40, if_neg n41, if_neg n43, if_neg n45, if_neg n42, if_neg n60, if_neg n47]
    rfl
  all_goals (subst c; decide)
theorem wrd_inj {i j : Nat} (hi : i < 17) (hj : j < 17) (e : wrd i = wrd j) : i = j := by
  have : ∀ i, i < 17 → ∀ j, j < 17 → wrd i = wrd j → i = j := by decide +kernel
  exact this i hi j hj e
theorem kwF_spec (v : Int64) : ∀ m, m ≤ 17 → (∃ i, i < 17 ∧ wrd i = v ∧ kwF v m = 20 + i) ∨ ((∀ i, 17 - m ≤ i → i < 17 → ¬ wrd i = v) ∧ kwF v m = 1)
  | 0, _ => Or.inr ⟨fun i h1 h2 => by omega, rfl⟩
  | m + 1, hm => by
    unfold kwF
    by_cases c : wrd (16 - m) = v
    · rw [if_pos c]
      exact Or.inl ⟨16 - m, by omega, c, rfl⟩
    · rw [if_neg c]
      rcases kwF_spec v m (by omega) with q | q
      · exact Or.inl q
      · refine Or.inr ⟨fun i h1 h2 => ?_, q.2⟩
        by_cases e : i = 16 - m
        · subst e; exact c
        · exact q.1 i (by omega) h2
theorem kwF_at {v : Int64} {i : Nat} (hi : i < 17) (e : wrd i = v) : kwF v 17 = 20 + i := by
  rcases kwF_spec v 17 (Nat.le_refl _) with ⟨j, hj, ej, ek⟩ | q
  · rw [ek, wrd_inj hi hj (by rw [e, ej])]
  · exact absurd e (q.1 i (by omega) hi)
theorem kwF_no {v : Int64} (n : ∀ i, i < 17 → ¬ wrd i = v) : kwF v 17 = 1 := by
  rcases kwF_spec v 17 (Nat.le_refl _) with ⟨j, hj, ej, ek⟩ | q
  · exact absurd ej (n j hj)
  · exact q.2
theorem cdF_in {f : Nat → Int32} {i : Nat} : ∀ c, c ≤ 8 → (∀ k, i ≤ k → k < i + c → isLt (f k) = true) → 0 ≤ (cdF f i c).toInt ∧ (cdF f i c).toInt < 27 ^ c ∧ (1 ≤ c → 27 ^ (c - 1) ≤ (cdF f i c).toInt)
  | 0, _, _ => ⟨show (0 : Int) ≤ (0 : Int64).toInt by decide, show (0 : Int64).toInt < (1 : Int) by decide, fun q => by omega⟩
  | c + 1, hc, hl => by
    obtain ⟨b1, b2, b3⟩ := cdF_in c (by omega) (fun k h1 h2 => hl k h1 (by omega))
    have hz := isLt_t.mp (hl (i + c) (by omega) (by omega))
    have e97 : (97 : Int32).toInt = 97 := rfl
    have e1 : (1 : Int32).toInt = 1 := rfl
    have e27 : (27 : Int64).toInt = 27 := rfl
    have s1 : (f (i + c) - 97).toInt = (f (i + c)).toInt - 97 := by rw [t_sub (by rw [e97]; omega) (by rw [e97]; omega), e97]
    have s2 : (f (i + c) - 97 + 1).toInt = (f (i + c)).toInt - 96 := by rw [t_add (by rw [s1, e1]; omega) (by rw [s1, e1]; omega), s1, e1]; omega
    have p8 : (27 : Int) ^ c ≤ 27 ^ 7 := by
      have : c ≤ 7 := by omega
      have := Nat.pow_le_pow_right (n := 27) (by decide) this
      exact_mod_cast this
    have p7 : (27 : Int) ^ 7 = 10460353203 := by decide
    have m1' : (cdF f i c * 27).toInt = (cdF f i c).toInt * 27 := by rw [tL_mul (by rw [e27]; omega) (by rw [e27]; omega), e27]
    have m2 : (cdF f i (c + 1)).toInt = (cdF f i c).toInt * 27 + ((f (i + c)).toInt - 96) := by
      show (cdF f i c * 27 + (f (i + c) - 97 + 1).toInt64).toInt = _
      rw [tL_add (by rw [m1', tL_int, s2]; omega) (by rw [m1', tL_int, s2]; omega), m1', tL_int, s2]
    rw [m2]
    have pc : (27 : Int) ^ (c + 1) = 27 ^ c * 27 := Int.pow_succ 27 c
    refine ⟨by omega, by omega, fun _ => ?_⟩
    rw [show c + 1 - 1 = c from rfl]
    rcases Nat.eq_zero_or_pos c with q | q
    · subst q
      rw [show (27 : Int) ^ 0 = 1 from rfl]
      omega
    · have b3' := b3 q
      have pc' : (27 : Int) ^ c = 27 ^ (c - 1) * 27 := by
        have := Int.pow_succ 27 (c - 1)
        rw [show (c - 1).succ = c from by omega] at this
        exact this
      omega
theorem kw_8 {f : Nat → Int32} {i : Nat} (hl : ∀ k, i ≤ k → k < i + 8 → isLt (f k) = true) : kwF (cdF f i 8) 17 = 1 := by
  have b := (cdF_in 8 (Nat.le_refl _) hl).2.2 (by decide)
  have p7 : (27 : Int) ^ (8 - 1) = 10460353203 := by decide
  refine kwF_no (fun j hj e => ?_)
  have : ∀ j, j < 17 → (wrd j).toInt < 10460353203 := by decide +kernel
  have := this j hj
  rw [e] at this
  omega
theorem appends_eq (x : Int64) (z : Int32) : (27 * x) + ((z - 97) + 1).toInt64 = x * 27 + ((z - 97) + 1).toInt64 := by rw [Int64.mul_comm]
theorem m_wordLoop {h : hp} {v : Int64} {x1 x3 : Int32} {Q : hp → Prop} {X7 : Int32 × hp → Prop} (hw : ∀ i, i < 17 → gL h 7 i = wrd i) (hq : w_X12_cut_179 Q X7 x1 x3 v (nI (kwF v 17)) h) : w_X12_cut_146 Q X7 x1 x3 v h 1 0 := by
  unfold w_X12_cut_146
  intro X hX
  have key : ∀ m j, 17 - j = m → j ≤ 17 → ∀ k : Int32, ((∃ i, i < j ∧ wrd i = v ∧ k = nI (20 + i)) ∨ ((∀ i, i < j → ¬ wrd i = v) ∧ k = 1)) → X (k, nI j) := by
    intro m
    induction m with
    | zero =>
      intro j hj hj2 k hk
      apply hX
      refine ⟨fun _ => ?_, fun c => absurd (nI_le (a := 17) (b := j) (by omega) (by omega)) c⟩
      show w_X12_cut_179 Q X7 x1 x3 v k h
      rcases hk with ⟨i, hi, ei, ek⟩ | ⟨n, ek⟩
      · rw [ek, ← kwF_at (by omega) ei]; exact hq
      · rw [ek, show (1 : Int32) = nI (kwF v 17) from by rw [kwF_no (fun i hi => n i (by omega))]; rfl]; exact hq
    | succ m ih =>
      intro j hj hj2 k hk
      apply hX
      refine ⟨fun c => absurd c (nI_ge (a := j) (b := 17) (by omega) (by omega)), fun _ => ⟨in_n (by omega) (by omega), fun c x ex => ?_, fun c y ey x ex => ?_⟩⟩
      · have c : ¬ gL h 7 (ix (nI j)) = v := c
        rw [ix_n (by omega), hw _ (by omega)] at c
        rw [← nI_succ] at ex
        subst ex
        refine ih (j + 1) (by clear hk; omega) (by clear hk; omega) k ?_
        rcases hk with ⟨i, hi, ei, ek⟩ | ⟨n, ek⟩
        · exact Or.inl ⟨i, Nat.lt_succ_of_lt hi, ei, ek⟩
        · refine Or.inr ⟨fun i hi => ?_, ek⟩
          by_cases e : i = j
          · subst e; exact c
          · exact n i (by omega)
      · have c : gL h 7 (ix (nI j)) = v := c
        rw [ix_n (by omega), hw _ (by omega)] at c
        rw [← nI_succ] at ex
        subst ex
        have ey : y = nI (20 + j) := by rw [ey]; exact nI_add 20 j
        subst ey
        exact ih (j + 1) (by clear hk; omega) (by clear hk; omega) _ (Or.inl ⟨j, Nat.lt_succ_self j, c, rfl⟩)
  exact key 17 0 rfl (by omega) 1 (Or.inr ⟨fun i hi => by omega, rfl⟩)
/-- what the reference writes for the token at i -/
def isTk (f : Nat → Int32) (n i : Nat) (k v : Int32) (w : Int64) : Prop := k = nI (tkK f n i) ∧ (tkK f n i = 2 → v = (tkV f n i).toInt32) ∧ (tkK f n i = 1 → w = tkV f n i)
theorem sgF_ge (z : Int32) : 3 ≤ sgF z := by
  unfold sgF
  repeat' split
  all_goals decide
theorem kwF_ne2 (v : Int64) : ¬ kwF v 17 = 2 := by
  rcases kwF_spec v 17 (Nat.le_refl _) with ⟨j, hj, ej, ek⟩ | q
  · omega
  · omega
theorem m_cutName {h : hp} {f : Nat → Int32} {n i m : Nat} {Q : hp → Prop} {X7 : Int32 × hp → Prop} (a : aText h n f) (hb : isBy f n) (hw : ∀ i, i < 17 → gL h 7 i = wrd i) (e : gI h 0 10 = nI m) (hm : m < 403) (hi : i < n) (hl : isLt (f i) = true) (hq : ∀ k v w, isTk f n i k v w → X7 (nI (tEnd f n i), mkPut h m k i v w)) : w_X12_cut_85 Q X7 (nI i) h 0 0 := by
  unfold w_X12_cut_85
  have hn := a.2.1
  obtain ⟨r1, r2, r3, r4⟩ := rn_spec isLt f n _ i rfl
  have r2 := r2 (by omega)
  have eE : tEnd f n i = rn isLt f n i := by unfold tEnd; rw [if_pos hl]
  have fin : ∀ k c : Nat, ∀ w : Int64, c = rn isLt f n i - i → isTk f n i (nI k) 0 w → w_X12_cut_179 Q X7 (nI i) (nI c) w (nI k) h := fun k c w ec tk => by
    unfold w_X12_cut_179
    refine m_token e hm (fun x ex => ?_)
    rw [nI_add, ec, show i + (rn isLt f n i - i) = rn isLt f n i from by omega, ← eE] at ex
    subst ex
    exact hq _ _ _ tk
  intro X hX
  have out : ∀ c, c = rn isLt f n i - i → ((nI c ≤ 8 → w_X12_cut_135 Q X7 (nI i) (nI c) (cdF f i (min c 8)) h 1) ∧ (¬ nI c ≤ 8 → w_X12_cut_135 Q X7 (nI i) (nI c) (cdF f i (min c 8)) h 3)) := fun c ec => by
    have e8 : nI c ≤ 8 ↔ c ≤ 8 := nI_leI (a := c) (b := 8) (by omega) (by omega)
    have e7 : (7 : Int32) < nI c ↔ 7 < c := by rw [t_lt, n_toInt (by omega), show (7 : Int32).toInt = 7 from rfl]; omega
    have tkc : tkK f n i = if c ≤ 8 then kwF (cdF f i c) 17 else 3 := by unfold tkK; rw [if_pos hl, ← ec]
    have tvc : tkV f n i = cdF f i c := by unfold tkV; rw [if_pos hl, ← ec]
    unfold w_X12_cut_135
    rw [e8, e7]
    refine ⟨fun c8 => ⟨fun c7 => ?_, fun c7 => ?_⟩, fun c8 => ⟨fun c7 => ?_, fun c7 => absurd (by omega) c7⟩⟩
    · have c88 : c = 8 := by omega
      rw [Nat.min_eq_left c8]
      refine fin 1 c _ ec ⟨?_, fun q => ?_, fun _ => tvc.symm⟩
      · rw [tkc, if_pos c8, c88, kw_8 (fun k h1 h2 => (r3 k h1 (by omega)).2)]
      · rw [tkc, if_pos c8] at q; exact absurd q (kwF_ne2 _)
    · rw [Nat.min_eq_left c8]
      refine m_wordLoop hw (fin _ c _ ec ⟨?_, fun q => ?_, fun _ => tvc.symm⟩)
      · rw [tkc, if_pos c8]
      · rw [tkc, if_pos c8] at q; exact absurd q (kwF_ne2 _)
    · refine fin 3 c _ ec ⟨?_, fun q => ?_, fun q => ?_⟩
      · rw [tkc, if_neg c8]
      · rw [tkc, if_neg c8] at q; omega
      · rw [tkc, if_neg c8] at q; omega
  have key : ∀ q c, rn isLt f n i - i - c = q → c ≤ rn isLt f n i - i → X (nI c, cdF f i (min c 8)) := by
    intro q
    induction q with
    | zero =>
      intro c hc1 hc2
      have ec : c = rn isLt f n i - i := by omega
      apply hX
      show w_X12_byteAt h (nI i + nI c) _
      rw [nI_add]
      have er : i + c = rn isLt f n i := by omega
      refine m_byteAt a (by omega) (fun hlt => m_isLetter (fun z => ?_) (fun z => ⟨fun _ => out c ec, fun z => absurd rfl z⟩)) (fun hge => m_isLetter (fun z => absurd z (by decide)) (fun z => ⟨fun _ => out c ec, fun z => absurd rfl z⟩))
      have b := hb (i + c) hlt
      rw [lt255 b.1 b.2, er] at z
      exact absurd ⟨by omega, z⟩ r4
    | succ q ih =>
      intro c hc1 hc2
      have ht := r3 (i + c) (by omega) (by omega)
      have b := hb (i + c) ht.1
      have z0 : f (i + c) &&& 255 = f (i + c) := z255 b.1 b.2 (by have := isLt_t.mp ht.2; omega)
      apply hX
      show w_X12_byteAt h (nI i + nI c) _
      rw [nI_add]
      refine m_byteAt a (by omega) (fun hlt => ?_) (fun hge => by omega)
      rw [z0]
      refine m_isLetter (fun z => ⟨fun z => absurd z (by decide), fun _ => ⟨fun c8 x ex => ?_, fun c8 => ?_⟩⟩) (fun z => absurd ht.2 z)
      · have c8 : 8 ≤ c := (nI_leI (a := 8) (b := c) (by omega) (by omega)).mp c8
        have ex : x = nI (c + 1) := by rw [nI_succ]; exact ex
        subst ex
        have := ih (c + 1) (by omega) (by omega)
        rw [show min (c + 1) 8 = min c 8 from by omega] at this
        exact this
      · have c8 : c < 8 := Nat.lt_of_not_le (fun z => c8 ((nI_leI (a := 8) (b := c) (by omega) (by omega)).mpr z))
        refine m_byteAt a (by omega) (fun hlt => ?_) (fun hge => by omega)
        rw [z0]
        unfold w_X12_appends w_X12_appends_0
        refine ⟨fun _ x ex => ?_, fun z => ?_⟩
        · have ex : x = nI (c + 1) := by rw [nI_succ]; exact ex
          subst ex
          have := ih (c + 1) (by omega) (by omega)
          rw [show min (c + 1) 8 = c + 1 from by omega] at this
          rw [appends_eq, show min c 8 = c from by omega]
          exact this
        · have := isLt_t.mp ht.2
          rw [z] at this
          exact absurd this (by decide)
  exact key _ 0 rfl (by omega)
theorem m_cutInt {h : hp} {f : Nat → Int32} {n i m : Nat} {Q : hp → Prop} {X7 : Int32 × hp → Prop} (a : aText h n f) (hb : isBy f n) (e : gI h 0 10 = nI m) (hm : m < 403) (hi : i < n) (hnl : ¬ isLt (f i) = true) (hl : isDg (f i) = true) (hq : ∀ k v w, isTk f n i k v w → X7 (nI (tEnd f n i), mkPut h m k i v w)) : w_X12_cut_208 Q X7 (nI i) h 0 0 := by
  unfold w_X12_cut_208
  have hn := a.2.1
  obtain ⟨r1, r2, r3, r4⟩ := rn_spec isDg f n _ i rfl
  have r2 := r2 (by omega)
  have eE : tEnd f n i = rn isDg f n i := by unfold tEnd; rw [if_neg hnl, if_pos hl]
  intro X hX
  have out : ∀ c, c = rn isDg f n i - i → ((nI c ≤ 4 → w_X12_cut_261 Q X7 (nI i) (nI c) (dgF' f i (min c 4)) h 2) ∧ (¬ nI c ≤ 4 → w_X12_cut_261 Q X7 (nI i) (nI c) (dgF' f i (min c 4)) h 3)) := fun c ec => by
    have e4 : nI c ≤ 4 ↔ c ≤ 4 := nI_leI (a := c) (b := 4) (by omega) (by omega)
    have tkc : tkK f n i = if c ≤ 4 then 2 else 3 := by unfold tkK; rw [if_neg hnl, if_pos hl, ← ec]
    have tvc : tkV f n i = (dgF' f i c).toInt64 := by unfold tkV; rw [if_neg hnl, if_pos hl, ← ec]
    have fin : ∀ k : Nat, ∀ v : Int32, isTk f n i (nI k) v 0 → w_X12_cut_261 Q X7 (nI i) (nI c) v h (nI k) := fun k v tk => by
      unfold w_X12_cut_261
      refine m_token e hm (fun x ex => ?_)
      rw [nI_add, ec, show i + (rn isDg f n i - i) = rn isDg f n i from by omega, ← eE] at ex
      subst ex
      exact hq _ _ _ tk
    rw [e4]
    refine ⟨fun c4 => fin 2 _ ⟨?_, fun _ => ?_, fun q => ?_⟩, fun c4 => fin 3 _ ⟨?_, fun q => ?_, fun q => ?_⟩⟩
    · rw [tkc, if_pos c4]
    · rw [tvc, Nat.min_eq_left c4]
      exact (Int32.toInt32_toInt64 _).symm
    · rw [tkc, if_pos c4] at q; omega
    · rw [tkc, if_neg c4]
    · rw [tkc, if_neg c4] at q; omega
    · rw [tkc, if_neg c4] at q; omega
  have key : ∀ q c, rn isDg f n i - i - c = q → c ≤ rn isDg f n i - i → X (nI c, dgF' f i (min c 4)) := by
    intro q
    induction q with
    | zero =>
      intro c hc1 hc2
      have ec : c = rn isDg f n i - i := by omega
      apply hX
      show w_X12_byteAt h (nI i + nI c) _
      rw [nI_add]
      have er : i + c = rn isDg f n i := by omega
      refine m_byteAt a (by omega) (fun hlt => m_isDigit (fun z => ?_) (fun z => ⟨fun _ => out c ec, fun z => absurd rfl z⟩)) (fun hge => m_isDigit (fun z => absurd z (by decide)) (fun z => ⟨fun _ => out c ec, fun z => absurd rfl z⟩))
      have b := hb (i + c) hlt
      rw [dg255 b.1 b.2, er] at z
      exact absurd ⟨by omega, z⟩ r4
    | succ q ih =>
      intro c hc1 hc2
      have ht := r3 (i + c) (by omega) (by omega)
      have b := hb (i + c) ht.1
      have z0 : f (i + c) &&& 255 = f (i + c) := z255 b.1 b.2 (by have := isDg_t.mp ht.2; omega)
      apply hX
      show w_X12_byteAt h (nI i + nI c) _
      rw [nI_add]
      refine m_byteAt a (by omega) (fun hlt => ?_) (fun hge => by omega)
      rw [z0]
      refine m_isDigit (fun z => ⟨fun z => absurd z (by decide), fun _ => ⟨fun c8 x ex => ?_, fun c8 => ?_⟩⟩) (fun z => absurd ht.2 z)
      · have c8 : 4 ≤ c := (nI_leI (a := 4) (b := c) (by omega) (by omega)).mp c8
        have ex : x = nI (c + 1) := by rw [nI_succ]; exact ex
        subst ex
        have := ih (c + 1) (by omega) (by omega)
        rw [show min (c + 1) 4 = min c 4 from by omega] at this
        exact this
      · have c8 : c < 4 := Nat.lt_of_not_le (fun z => c8 ((nI_leI (a := 4) (b := c) (by omega) (by omega)).mpr z))
        refine m_byteAt a (by omega) (fun hlt y ey x ex => ?_) (fun hge => by omega)
        rw [z0] at ey
        have ex : x = nI (c + 1) := by rw [nI_succ]; exact ex
        subst ex
        have := ih (c + 1) (by omega) (by omega)
        rw [show min (c + 1) 4 = c + 1 from by omega] at this
        have ey : y = dgF' f i (c + 1) := by
          rw [ey]
          show 10 * dgF' f i (min c 4) + f (i + c) - 48 = dgF' f i c * 10 + (f (i + c) - 48)
          rw [show min c 4 = c from by omega, Int32.mul_comm, Int32.sub_eq_add_neg, Int32.sub_eq_add_neg, Int32.add_assoc]
        subst ey
        exact this
  exact key _ 0 rfl (by omega)
def entM (h : hp) (f : Nat → Int32) (n m : Nat) : Prop := ∀ k, k < m → pos f n k < n ∧ gI h 3 k = nI (tkK f n (pos f n k)) ∧ gI h 4 k = nI (pos f n k) ∧ (tkK f n (pos f n k) = 2 → gI h 5 k = (tkV f n (pos f n k)).toInt32) ∧ (tkK f n (pos f n k) = 1 → gL h 6 k = tkV f n (pos f n k))
theorem entM_put {h : hp} {f : Nat → Int32} {n m : Nat} {k v : Int32} {w : Int64} (a : entM h f n m) (hp1 : pos f n m < n) (tk : isTk f n (pos f n m) k v w) : entM (mkPut h m k (pos f n m) v w) f n (m + 1) := fun j hj => by
  rw [mkPut_3, mkPut_4, mkPut_5, mkPut_6]
  by_cases c : j = m
  · subst c
    rw [if_pos rfl, if_pos rfl, if_pos rfl, if_pos rfl]
    exact ⟨hp1, tk.1, rfl, tk.2.1, tk.2.2⟩
  · rw [if_neg c, if_neg c, if_neg c, if_neg c]
    exact a j (by omega)
theorem m_cut {h : hp} {f : Nat → Int32} {n : Nat} {Q : hp → Prop} (a : aText h n f) (hb : isBy f n) (hw : ∀ i, i < 17 → gL h 7 i = wrd i) (hq : ∀ h1 c, eqE cutM h h1 → mTk h1 f n c → Q h1) : w_X12_cut h Q := by
  unfold w_X12_cut w_X12_cut_0
  intro h1 e1
  have hn := a.2.1
  unfold w_X12_cut_7
  intro X hX
  have key : ∀ q t m h2, n - t = q → t ≤ n → m ≤ 401 → eqE cutM h h2 → gI h2 0 10 = nI m → entM h2 f n m → rn isBk f n t = pos f n m → X (nI t, h2) := by
    intro q
    induction q using Nat.strongRecOn with
    | ind q ih =>
      intro t m h2 hq1 ht hm ee em ent hp1
      have a2 : aText h2 n f := ⟨by rw [eqE_I ee (by unfold cutM; omega)]; exact a.1, hn, fun k hk => by rw [eqE_I ee (by unfold cutM; omega)]; exact a.2.2 k hk⟩
      have w2 : ∀ i, i < 17 → gL h2 7 i = wrd i := fun i hi => by rw [eqE_L ee (by unfold cutM; omega)]; exact hw i hi
      apply hX
      show w_X12_cut_b7 Q X (nI t) h2
      unfold w_X12_cut_b7
      rw [em, a2.1]
      have e400 : (400 : Int32) < nI m ↔ 400 < m := by rw [t_lt, n_toInt (by omega), show (400 : Int32).toInt = 400 from rfl]; omega
      have etn : nI t < nI n ↔ t < n := by rw [t_lt, n_toInt (by omega), n_toInt (by omega)]; omega
      rw [e400, etn]
      refine ⟨fun c => hq h2 m ee ⟨hm, ent, fun z => by omega⟩, fun c => m_byteAt a2 (by omega) (fun hlt => ⟨fun _ => ?_, fun z => absurd hlt z⟩) (fun hge => ⟨fun z => absurd z (by omega), fun _ => m_token em (by omega) ?_⟩)⟩
      · have b := hb t hlt
        rw [n255 b.1 b.2 (v := 9) (by decide) (by decide), n255 b.1 b.2 (v := 10) (by decide) (by decide), n255 b.1 b.2 (v := 13) (by decide) (by decide), n255 b.1 b.2 (v := 32) (by decide) (by decide)]
        have blank : isBk (f t) = true → ∀ x, x = nI t + 1 → X (x, h2) := fun bl x ex => by
          rw [← nI_succ] at ex
          subst ex
          exact ih (n - (t + 1)) (by omega) (t + 1) m h2 rfl (by omega) hm ee em ent (by rw [← rn_s hlt bl]; exact hp1)
        have e9 : f t = 9 ↔ (f t).toInt = 9 := t_eq
        have e10 : f t = 10 ↔ (f t).toInt = 10 := t_eq
        have e13 : f t = 13 ↔ (f t).toInt = 13 := t_eq
        have e32 : f t = 32 ↔ (f t).toInt = 32 := t_eq
        refine ⟨fun c => blank (isBk_t.mpr (Or.inl (e9.mp c))), fun n9 => ⟨fun c => blank (isBk_t.mpr (Or.inr (Or.inl (e10.mp c)))), fun n10 => ⟨fun c => blank (isBk_t.mpr (Or.inr (Or.inr (Or.inl (e13.mp c))))), fun n13 => ⟨fun n32 => ?_, fun c => blank (isBk_t.mpr (Or.inr (Or.inr (Or.inr (e32.mp c)))))⟩⟩⟩⟩
        have nb : ¬ isBk (f t) = true := fun q => by
          rcases isBk_t.mp q with q | q | q | q
          · exact n9 (e9.mpr q)
          · exact n10 (e10.mpr q)
          · exact n13 (e13.mpr q)
          · exact n32 (e32.mpr q)
        have ept : pos f n m = t := by
          rw [← hp1]
          exact rn_e (fun z => nb z.2)
        have ht2 := tEnd_le (f := f) (n := n) (i := t) hlt
        have go : ∀ k v w, isTk f n t k v w → X (nI (tEnd f n t), mkPut h2 m k t v w) := fun k v w tk => by
          refine ih (n - tEnd f n t) (by omega) (tEnd f n t) (m + 1) _ rfl ht2.2 (by omega) (eqE_trans ee mkPut_e) (gI_at _ _ _ _) ?_ ?_
          · have := entM_put ent (by omega) (k := k) (v := v) (w := w) (by rw [ept]; exact tk)
            rw [ept] at this
            exact this
          · show _ = rn isBk f n (tEnd f n (pos f n m))
            rw [ept]
        refine m_isLetter (fun lt => ⟨fun z => absurd z (by decide), fun _ => m_cutName a2 hb w2 em (by omega) hlt ((lt255 b.1 b.2).mp lt) go⟩) (fun nl => ⟨fun _ => ?_, fun z => absurd rfl z⟩)
        have nl : ¬ isLt (f t) = true := fun z => nl ((lt255 b.1 b.2).mpr z)
        refine m_isDigit (fun dg => ⟨fun z => absurd z (by decide), fun _ => m_cutInt a2 hb em (by omega) hlt nl ((dg255 b.1 b.2).mp dg) go⟩) (fun nd => ⟨fun _ => ?_, fun z => absurd rfl z⟩)
        have nd : ¬ isDg (f t) = true := fun z => nd ((dg255 b.1 b.2).mpr z)
        have tk : isTk f n t (nI (sgF (f t))) 0 0 := by
          have e : tkK f n t = sgF (f t) := by unfold tkK; rw [if_neg nl, if_neg nd]
          have := sgF_ge (f t)
          exact ⟨by rw [e], fun q => by omega, fun q => by omega⟩
        have eE : tEnd f n t = t + 1 := by unfold tEnd; rw [if_neg nl, if_neg nd]
        have g := go _ _ _ tk
        rw [eE, nI_succ] at g
        have sg : ∀ r : Int32, w_X12_sign h2 (nI t) (f t &&& 255) r (fun r22 h21 => ∀ x1_23, x1_23 = nI t + r22 → X (x1_23, h21)) := fun r => m_sign em (by omega) (fun x ex => by
          subst ex
          rw [sg255 b.1 b.2]
          exact g)
        rw [← nI_succ]
        exact m_byteAt a2 (by omega) (fun _ => sg _) (fun _ => sg _)
      · have : rn isBk f n t = t := rn_e (fun z => by omega)
        refine hq _ m (eqE_trans ee mkPut_e) ⟨hm, fun k hk => ?_, fun _ => ⟨by omega, ?_, ?_⟩⟩
        · rw [mkPut_3, mkPut_4, mkPut_5, mkPut_6, if_neg (by omega), if_neg (by omega), if_neg (by omega), if_neg (by omega)]
          exact ent k hk
        · rw [mkPut_3, if_pos rfl]
        · rw [mkPut_4, if_pos rfl]
  subst e1
  exact key n 0 0 _ rfl (by omega) (by omega) (eqE_sI (eqE_refl h) (by unfold cutM; omega)) (gI_at _ _ _ _) (fun k hk => by omega) rfl
/-! the tokens that were cut, as both have them: how many, kinds, starts, values -/
abbrev Tb : Type := Nat × (Nat → Nat) × (Nat → Nat) × (Nat → Int64)
abbrev tbC (T : Tb) : Nat := T.1
abbrev tbK (T : Tb) (k : Nat) : Nat := T.2.1 k
abbrev tbS (T : Tb) (k : Nat) : Nat := T.2.2.1 k
abbrev tbV (T : Tb) (k : Nat) : Int64 := T.2.2.2 k
def okTb (T : Tb) : Prop := tbC T ≤ 401 ∧ (∀ k, tbK T k ≤ 36) ∧ (∀ k, tbC T ≤ k → tbK T k = 0) ∧ (∀ j k, j < k → k ≤ 400 → k ≤ tbC T → tbS T j < tbS T k) ∧ (∀ k, tbS T k ≤ 2000) ∧ (∀ k, tbK T k = 2 → 0 ≤ (tbV T k).toInt ∧ (tbV T k).toInt ≤ 9999)
def cTb (T : Tb) (h : hp) : Prop := ∀ k, k ≤ 400 → k ≤ tbC T → gI h 4 k = cK (tbK T k) ∧ gI h 5 k = nI (tbS T k) ∧ (k < tbC T → gL h 6 k = tbV T k)
def mTb (T : Tb) (h : hp) : Prop := ∀ k, k ≤ 400 → k ≤ tbC T → gI h 3 k = nI (tbK T k) ∧ gI h 4 k = nI (tbS T k) ∧ (tbK T k = 2 → gI h 5 k = (tbV T k).toInt32) ∧ (tbK T k = 1 → gL h 6 k = tbV T k)
def tabOf (f : Nat → Int32) (n c : Nat) : Tb := (c, fun k => if k < c then tkK f n (pos f n k) else 0, fun k => if k < c then pos f n k else n, fun k => tkV f n (pos f n k))
theorem kwF_le (v : Int64) : ∀ m, m ≤ 17 → kwF v m ≤ 36 := by
  intro m
  induction m with
  | zero => intro _; unfold kwF; omega
  | succ k ih => 
    intro hk
    unfold kwF
    split
    · omega
    · exact ih (by omega)
theorem sgF_le (z : Int32) : sgF z ≤ 36 := by
  unfold sgF
  repeat' split
  all_goals decide
theorem tkK_le (f : Nat → Int32) (n i : Nat) : tkK f n i ≤ 36 := by
  unfold tkK
  have h1 := kwF_le (cdF f i (rn isLt f n i - i)) 17 (Nat.le_refl _)
  have h2 := sgF_le (f i)
  split
  · split <;> omega
  · split
    · split <;> omega
    · exact h2
theorem pos_s {f : Nat → Int32} {n k : Nat} (h : pos f n k < n) : pos f n k < pos f n (k + 1) := by
  have h1 := (tEnd_le (f := f) (n := n) h).1
  have h2 := (rn_spec isBk f n _ (tEnd f n (pos f n k)) rfl).1
  show _ < rn isBk f n (tEnd f n (pos f n k))
  omega
theorem pos_lt {f : Nat → Int32} {n c : Nat} (h : ∀ k, k < c → pos f n k < n) : ∀ k j, j < k → k ≤ c → pos f n j < pos f n k := by
  intro k
  induction k with
  | zero => intro j hj; omega
  | succ k ih =>
    intro j hj hk
    have s := pos_s (h k (by omega))
    by_cases e : j = k
    · subst e; exact s
    · have := ih j (by omega) (by omega); omega
theorem dgF'_in {f : Nat → Int32} {i : Nat} : ∀ c, c ≤ 4 → (∀ k, i ≤ k → k < i + c → isDg (f k) = true) → 0 ≤ (dgF' f i c).toInt ∧ (dgF' f i c).toInt < 10 ^ c := by
  intro c
  induction c with
  | zero => exact fun _ _ => ⟨Int.le_refl 0, (by decide : (0 : Int) < 1)⟩
  | succ c ih =>
    intro hc hd
    obtain ⟨h1, h2⟩ := ih (by omega) (fun k a b => hd k a (by omega))
    have d := isDg_t.mp (hd (i + c) (by omega) (by omega))
    have p : (10 : Int) ^ c ≤ 1000 := by
      have : c = 0 ∨ c = 1 ∨ c = 2 ∨ c = 3 := by omega
      rcases this with q | q | q | q <;> subst q <;> decide
    have e10 : (10 : Int32).toInt = 10 := rfl
    have e48 : (48 : Int32).toInt = 48 := rfl
    have m : (dgF' f i c * 10).toInt = (dgF' f i c).toInt * 10 := by rw [t_mul (by rw [e10]; omega) (by rw [e10]; omega), e10]
    have s : (f (i + c) - 48).toInt = (f (i + c)).toInt - 48 := by rw [t_sub (by rw [e48]; omega) (by rw [e48]; omega), e48]
    have e : (dgF' f i (c + 1)).toInt = (dgF' f i c).toInt * 10 + ((f (i + c)).toInt - 48) := by
      show (dgF' f i c * 10 + (f (i + c) - 48)).toInt = _
      rw [t_add (by omega) (by omega), m, s]
    have q : (10 : Int) ^ (c + 1) = 10 ^ c * 10 := by rw [Int.pow_succ]
    rw [e, q]
    omega
theorem tkV_in {f : Nat → Int32} {n i : Nat} (h : tkK f n i = 2) : 0 ≤ (tkV f n i).toInt ∧ (tkV f n i).toInt ≤ 9999 := by
  unfold tkK at h
  unfold tkV
  by_cases c : isLt (f i) = true
  · rw [if_pos c] at h
    have := kwF_ne2 (cdF f i (rn isLt f n i - i))
    split at h
    · exact absurd h this
    · omega
  · rw [if_neg c] at h ⊢
    by_cases d : isDg (f i) = true
    · rw [if_pos d] at h ⊢
      by_cases l : rn isDg f n i - i ≤ 4
      · have r := rn_spec isDg f n _ i rfl
        have b := dgF'_in (f := f) (i := i) _ l (fun k a b => (r.2.2.1 k a (by omega)).2)
        have p : (10 : Int) ^ (rn isDg f n i - i) ≤ 10000 := by
          have : rn isDg f n i - i = 0 ∨ rn isDg f n i - i = 1 ∨ rn isDg f n i - i = 2 ∨ rn isDg f n i - i = 3 ∨ rn isDg f n i - i = 4 := by omega
          rcases this with q | q | q | q | q <;> rw [q] <;> decide
        rw [tL_int]
        omega
      · rw [if_neg l] at h; omega
    · rw [if_neg d] at h
      have := sgF_ge (f i)
      omega
theorem tab_ok {f : Nat → Int32} {n c : Nat} (hn : n ≤ 2000) (hc : c ≤ 401) (h : ∀ k, k < c → pos f n k < n) : okTb (tabOf f n c) := by
  refine ⟨hc, fun k => ?_, fun k hk => if_neg (by show ¬ k < c; exact Nat.not_lt.mpr hk), fun j k hj _ hk => ?_, fun k => ?_, fun k hk => ?_⟩
  · show (if k < c then _ else _) ≤ 36
    split
    · exact tkK_le f n _
    · omega
  · have hk : k ≤ c := hk
    show (if j < c then _ else _) < (if k < c then _ else _)
    rw [if_pos (by omega)]
    by_cases e : k < c
    · rw [if_pos e]; exact pos_lt h k j hj hk
    · rw [if_neg e]; exact h j (by omega)
  · show (if k < c then _ else _) ≤ 2000
    split
    · next q => have := h k q; omega
    · omega
  · have hk : (if k < c then tkK f n (pos f n k) else 0) = 2 := hk
    by_cases e : k < c
    · rw [if_pos e] at hk; exact tkV_in hk
    · rw [if_neg e] at hk; omega
theorem tab_c {h : hp} {f : Nat → Int32} {n c : Nat} (a : cTk h f n c) : cTb (tabOf f n c) h := by
  obtain ⟨a1, a2, a3, a4, a5⟩ := a
  intro k h1 h2
  have h2 : k ≤ c := h2
  show gI h 4 k = cK (if k < c then _ else _) ∧ gI h 5 k = nI (if k < c then _ else _) ∧ (k < c → _)
  by_cases e : k < c
  · rw [if_pos e, if_pos e]
    exact ⟨(a2 k e).2.1, (a2 k e).2.2.1, fun _ => (a2 k e).2.2.2⟩
  · rw [if_neg e, if_neg e, show k = c from by omega]
    exact ⟨a4, a5, fun q => by omega⟩
theorem tab_m {h : hp} {f : Nat → Int32} {n c : Nat} (a : mTk h f n c) : mTb (tabOf f n c) h := by
  obtain ⟨a1, a2, a3⟩ := a
  intro k h1 h2
  have h2 : k ≤ c := h2
  show gI h 3 k = nI (if k < c then _ else _) ∧ gI h 4 k = nI (if k < c then _ else _) ∧ ((if k < c then _ else _) = 2 → _) ∧ ((if k < c then _ else _) = 1 → _)
  by_cases e : k < c
  · rw [if_pos e, if_pos e]
    exact (a2 k e).2
  · rw [if_neg e, if_neg e]
    have ek : k = c := by omega
    subst ek
    exact ⟨(a3 (by omega)).2.1, (a3 (by omega)).2.2, fun q => by omega, fun q => by omega⟩
theorem tk_uniq {hc hm : hp} {f : Nat → Int32} {n c c' : Nat} (a : cTk hc f n c) (b : mTk hm f n c') : c' = c := by
  by_cases q : c < c'
  · have := a.2.2.1 (by have := b.1; omega)
    have := (b.2.1 c q).1
    omega
  · by_cases q : c' < c
    · have := (b.2.2 (by have := a.1; omega)).1
      have := (a.2.1 c' q).1
      omega
    · omega
theorem cK_inj {a b : Nat} (ha : a ≤ 36) (hb : b ≤ 36) : cK a = cK b ↔ a = b := by
  have : ∀ a, a < 37 → ∀ b, b < 37 → (cK a = cK b ↔ a = b) := by decide +kernel
  exact this a (by omega) b (by omega)
/-! both read on: at token t, with a note W at the place Q -/
def s2 (a j : Nat) : Prop := a = 2 ∧ j < 3
def sM (a j : Nat) : Prop := a = 0 ∧ (j = 11 ∨ (13 ≤ j ∧ j ≤ 16))
def nOk (T : Tb) (t W : Nat) (Q : Int32) : Prop := W ≤ 5 ∧ (W = 0 → Q = -1) ∧ (¬ W = 0 → ∃ q, q < t ∧ Q = nI (tbS T q))
def GS (T : Tb) (hc hm : hp) (t W : Nat) (Q : Int32) : Prop := (okTb T ∧ cTb T hc ∧ mTb T hm ∧ t ≤ 400 ∧ t ≤ tbC T ∧ nOk T t W Q) ∧ (gI hc 2 2 = nI t ∧ gI hc 2 1 = nI W ∧ gI hc 2 0 = Q) ∧ (gI hm 0 11 = nI t ∧ gI hm 0 13 = 0 ∧ gI hm 0 15 = nI W ∧ (¬ W = 0 → gI hm 0 16 = Q))
/-- the reference goes on behind a fault -/
def FM (hm : hp) (F : Nat) (P : Int32) : Prop := 1 ≤ F ∧ F ≤ 2 ∧ gI hm 0 13 = nI F ∧ gI hm 0 14 = P ∧ ∃ t, t ≤ 400 ∧ gI hm 0 11 = nI t
def CF (hc : hp) (F : Nat) (P : Int32) : Prop := gI hc 2 1 = nI F ∧ gI hc 2 0 = P
def BS (hc hm : hp) : Prop := ∃ F P, CF hc F P ∧ FM hm F P
def kGC (a j : Nat) : Prop := a = 4 ∨ a = 5 ∨ a = 6 ∨ (a = 2 ∧ j < 3)
def kGM (a j : Nat) : Prop := a = 3 ∨ a = 4 ∨ a = 5 ∨ a = 6 ∨ (a = 0 ∧ (j = 11 ∨ j = 13 ∨ j = 15 ∨ j = 16))
def kFM (a j : Nat) : Prop := a = 0 ∧ (j = 11 ∨ j = 13 ∨ j = 14)
theorem cTb_f {T : Tb} {h h1 : hp} (e : agI (fun a _ => a = 4 ∨ a = 5 ∨ a = 6) h h1) (a : cTb T h) : cTb T h1 := fun k h1' h2' => by
  obtain ⟨a1, a2, a3⟩ := a k h1' h2'
  exact ⟨by rw [(e 4 k (Or.inl rfl)).1]; exact a1, by rw [(e 5 k (Or.inr (Or.inl rfl))).1]; exact a2, fun q => by rw [(e 6 k (Or.inr (Or.inr rfl))).2]; exact a3 q⟩
theorem mTb_f {T : Tb} {h h1 : hp} (e : agI (fun a _ => a = 3 ∨ a = 4 ∨ a = 5 ∨ a = 6) h h1) (a : mTb T h) : mTb T h1 := fun k h1' h2' => by
  obtain ⟨a1, a2, a3, a4⟩ := a k h1' h2'
  exact ⟨by rw [(e 3 k (Or.inl rfl)).1]; exact a1, by rw [(e 4 k (Or.inr (Or.inl rfl))).1]; exact a2, fun q => by rw [(e 5 k (Or.inr (Or.inr (Or.inl rfl)))).1]; exact a3 q, fun q => by rw [(e 6 k (Or.inr (Or.inr (Or.inr rfl)))).2]; exact a4 q⟩
theorem GS_f {T : Tb} {hc hm hc1 hm1 : hp} {t W : Nat} {Q : Int32} (ec : agI kGC hc hc1) (em : agI kGM hm hm1) (g : GS T hc hm t W Q) : GS T hc1 hm1 t W Q := by
  obtain ⟨⟨a1, a2, a3, a4, a5, a6⟩, ⟨b1, b2, b3⟩, c1, c2, c3, c4⟩ := g
  refine ⟨⟨a1, cTb_f (agI_w ec (fun a j q => by unfold kGC; omega)) a2, mTb_f (agI_w em (fun a j q => by unfold kGM; omega)) a3, a4, a5, a6⟩, ⟨?_, ?_, ?_⟩, ?_, ?_, ?_, fun q => ?_⟩
  · rw [(ec 2 2 (by unfold kGC; omega)).1]; exact b1
  · rw [(ec 2 1 (by unfold kGC; omega)).1]; exact b2
  · rw [(ec 2 0 (by unfold kGC; omega)).1]; exact b3
  · rw [(em 0 11 (by unfold kGM; omega)).1]; exact c1
  · rw [(em 0 13 (by unfold kGM; omega)).1]; exact c2
  · rw [(em 0 15 (by unfold kGM; omega)).1]; exact c3
  · rw [(em 0 16 (by unfold kGM; omega)).1]; exact c4 q
theorem FM_f {h h1 : hp} {F : Nat} {P : Int32} (e : agI kFM h h1) (g : FM h F P) : FM h1 F P := by
  obtain ⟨a1, a2, a3, a4, t, a5, a6⟩ := g
  exact ⟨a1, a2, by rw [(e 0 13 (by unfold kFM; omega)).1]; exact a3, by rw [(e 0 14 (by unfold kFM; omega)).1]; exact a4, t, a5, by rw [(e 0 11 (by unfold kFM; omega)).1]; exact a6⟩
theorem FM_ne {h : hp} {F : Nat} {P : Int32} (g : FM h F P) : ¬ gI h 0 13 = 0 ∧ ¬ gI h 0 13 ≤ 0 ∧ 0 < gI h 0 13 := by
  obtain ⟨a1, a2, a3, _⟩ := g
  rw [a3]
  have : F = 1 ∨ F = 2 := by omega
  rcases this with q | q <;> subst q <;> decide
theorem GS_0 {T : Tb} {hc hm : hp} {t W : Nat} {Q : Int32} (g : GS T hc hm t W Q) : gI hm 0 13 = 0 ∧ gI hm 0 13 ≤ 0 ∧ ¬ 0 < gI hm 0 13 := by
  rw [g.2.2.2.1]
  decide
/-! one step each -/
theorem c_kind {T : Tb} {hc hm : hp} {t W : Nat} {Q0 : Int32} {Q : Int32 → Prop} (g : GS T hc hm t W Q0) (hq : Q (cK (tbK T t))) : w_X5_kind hc Q := by
  obtain ⟨⟨a1, a2, a3, a4, a5, a6⟩, ⟨b1, b2, b3⟩, _⟩ := g
  unfold w_X5_kind w_X5_kind_0
  rw [b1, ix_n (n := t) (by omega), (a2 t a4 a5).1]
  exact ⟨fun c => absurd c (nI_nlt (a := 400) (b := t) a4 (by omega)), fun _ => ⟨in_n (by omega) (by omega), hq⟩⟩
def cSt (T : Tb) (hc : hp) (F t : Nat) : hp := sI (sI hc 2 1 (nI F)) 2 0 (nI (tbS T t))
def mSt (T : Tb) (hm : hp) (F t : Nat) : hp := sI (sI hm 0 13 (nI F)) 0 14 (nI (tbS T t))
theorem c_stop {T : Tb} {hc hm : hp} {t W F : Nat} {Q0 : Int32} {Q : Int32 → hp → Prop} (g : GS T hc hm t W Q0) (hq : Q 0 (cSt T hc F t)) : w_X5_stop hc (nI F) Q := by
  obtain ⟨⟨a1, a2, a3, a4, a5, a6⟩, ⟨b1, b2, b3⟩, _⟩ := g
  unfold w_X5_stop w_X5_stop_0
  intro h1 e1
  subst e1
  rw [gI_k _ _ (by decide), b1]
  refine ⟨in_n (by omega) (by omega), fun h2 e2 => ?_⟩
  rw [ix_n (n := t) (by omega), gI_o _ _ (by decide), (a2 t a4 a5).2.1] at e2
  subst e2
  exact hq
theorem m_fail0 {T : Tb} {hc hm : hp} {t W F : Nat} {Q0 : Int32} {Q : hp → Prop} (g : GS T hc hm t W Q0) (hq : Q (mSt T hm F t)) : w_X12_fail hm (nI F) Q := by
  have z := GS_0 g
  obtain ⟨⟨a1, a2, a3, a4, a5, a6⟩, _, c1, c2, c3, c4⟩ := g
  unfold w_X12_fail w_X12_fail_0
  refine ⟨fun _ h1 e1 => ?_, fun q => absurd z.2.1 q⟩
  subst e1
  rw [gI_k _ _ (by decide), c1]
  refine ⟨in_n (by omega) (by omega), fun h2 e2 => ?_⟩
  rw [ix_n (n := t) (by omega), gI_o _ _ (by decide), (a3 t a4 a5).2.1] at e2
  subst e2
  exact hq
theorem m_fail1 {hm : hp} {F : Nat} {P x : Int32} {Q : hp → Prop} (g : FM hm F P) (hq : Q hm) : w_X12_fail hm x Q :=
  ⟨fun q => absurd q (FM_ne g).2.1, fun _ => hq⟩
theorem BS_st {T : Tb} {hc hm : hp} {t W F : Nat} {Q0 : Int32} (g : GS T hc hm t W Q0) (h1 : 1 ≤ F) (h2 : F ≤ 2) : BS (cSt T hc F t) (mSt T hm F t) := by
  obtain ⟨⟨a1, a2, a3, a4, a5, a6⟩, _, c1, c2, c3, c4⟩ := g
  refine ⟨F, nI (tbS T t), ⟨by unfold cSt; rw [gI_k _ _ (by decide)]; exact gI_at _ _ _ _, gI_at _ _ _ _⟩, h1, h2, by unfold mSt; rw [gI_k _ _ (by decide)]; exact gI_at _ _ _ _, gI_at _ _ _ _, t, a4, ?_⟩
  unfold mSt
  rw [gI_k _ _ (by decide), gI_k _ _ (by decide)]
  exact c1
theorem cSt_e {T : Tb} {hc : hp} {F t : Nat} : eqE s2 hc (cSt T hc F t) := eqE_sI (eqE_sI (eqE_refl _) (by unfold s2; omega)) (by unfold s2; omega)
theorem mSt_e {T : Tb} {hm : hp} {F t : Nat} : eqE sM hm (mSt T hm F t) := eqE_sI (eqE_sI (eqE_refl _) (by unfold sM; omega)) (by unfold sM; omega)
theorem nOk_s {T : Tb} {t W : Nat} {Q : Int32} (n : nOk T t W Q) : nOk T (t + 1) W Q := ⟨n.1, n.2.1, fun q => by
  obtain ⟨k, h1, h2⟩ := n.2.2 q
  exact ⟨k, by omega, h2⟩⟩
def cAdv (hc : hp) (t : Nat) : hp := sI hc 2 2 (nI (t + 1))
def mAdv (hm : hp) (t : Nat) : hp := sI hm 0 11 (nI (t + 1))
theorem lt_tb {T : Tb} {t : Nat} (o : okTb T) (h : ¬ tbK T t = 0) : t < tbC T := Nat.lt_of_not_le (fun q => h (o.2.2.1 t q))
theorem GS_adv {T : Tb} {hc hm : hp} {t W : Nat} {Q : Int32} (g : GS T hc hm t W Q) (ht : t < 400) (hk : ¬ tbK T t = 0) : GS T (cAdv hc t) (mAdv hm t) (t + 1) W Q := by
  obtain ⟨⟨a1, a2, a3, a4, a5, a6⟩, ⟨b1, b2, b3⟩, c1, c2, c3, c4⟩ := g
  refine ⟨⟨a1, cTb_f (agI_sI (agI_r _) (by decide)) a2, mTb_f (agI_sI (agI_r _) (by decide)) a3, by omega, lt_tb a1 hk, nOk_s a6⟩, ⟨gI_at _ _ _ _, ?_, ?_⟩, gI_at _ _ _ _, ?_, ?_, fun q => ?_⟩
  · unfold cAdv; rw [gI_k _ _ (by decide)]; exact b2
  · unfold cAdv; rw [gI_k _ _ (by decide)]; exact b3
  · unfold mAdv; rw [gI_k _ _ (by decide)]; exact c2
  · unfold mAdv; rw [gI_k _ _ (by decide)]; exact c3
  · unfold mAdv; rw [gI_k _ _ (by decide)]; exact c4 q
theorem cAdv_e {hc : hp} {t : Nat} : eqE s2 hc (cAdv hc t) := eqE_sI (eqE_refl _) (by unfold s2; omega)
theorem mAdv_e {hm : hp} {t : Nat} : eqE sM hm (mAdv hm t) := eqE_sI (eqE_refl _) (by unfold sM; omega)
theorem isZ0 : isZ 0 := by unfold isZ; decide
theorem isZ1 : isZ 1 := by unfold isZ; decide
/-- the token at t is passed -/
theorem L_next {T : Tb} {hc hm : hp} {t W : Nat} {Q0 : Int32} (g : GS T hc hm t W Q0) (hk : ¬ tbK T t = 0) :
    (∃ hc1 hm1, eqE s2 hc hc1 ∧ eqE sM hm hm1 ∧ GS T hc1 hm1 (t + 1) W Q0 ∧ (∀ Q : Int32 → hp → Prop, Q 1 hc1 → w_X5_take hc (cK (tbK T t)) Q) ∧ (∀ Q : hp → Prop, Q hm1 → w_X12_goesOn hm Q)) ∨
    (∃ hc1 hm1, eqE s2 hc hc1 ∧ eqE sM hm hm1 ∧ BS hc1 hm1 ∧ (∀ Q : Int32 → hp → Prop, Q 0 hc1 → w_X5_take hc (cK (tbK T t)) Q) ∧ (∀ Q : hp → Prop, Q hm1 → w_X12_goesOn hm Q)) := by
  have g0 := g
  obtain ⟨⟨a1, a2, a3, a4, a5, a6⟩, ⟨b1, b2, b3⟩, c1, c2, c3, c4⟩ := g
  by_cases ht : t < 400
  · left
    refine ⟨cAdv hc t, mAdv hm t, cAdv_e, mAdv_e, GS_adv g0 ht hk, fun Q hq => ?_, fun Q hq => ?_⟩
    · unfold w_X5_take w_X5_take_0
      refine c_kind g0 ⟨fun _ => ⟨fun _ h5 e5 => ?_, fun q => absurd ?_ q⟩, fun q => absurd rfl q⟩
      · rw [b1, ← nI_succ] at e5
        subst e5
        exact hq
      · rw [b1, t_lt, n_toInt (by omega), show (400 : Int32).toInt = 400 from rfl]; omega
    · unfold w_X12_goesOn w_X12_goesOn_0
      refine ⟨fun _ h2 e2 => ?_, fun q => absurd q ?_⟩
      · rw [c1, ← nI_succ] at e2
        subst e2
        exact hq
      · rw [c1, t_eq, n_toInt (by omega), show (400 : Int32).toInt = 400 from rfl]; omega
  · right
    refine ⟨cSt T hc 2 t, mSt T hm 2 t, cSt_e, mSt_e, BS_st g0 (by omega) (by omega), fun Q hq => ?_, fun Q hq => ?_⟩
    · unfold w_X5_take w_X5_take_0
      refine c_kind g0 ⟨fun _ => ⟨fun q => absurd q ?_, fun _ => c_stop (F := 2) g0 ⟨isZ0, hq⟩⟩, fun q => absurd rfl q⟩
      rw [b1, t_lt, n_toInt (by omega), show (400 : Int32).toInt = 400 from rfl]; omega
    · unfold w_X12_goesOn w_X12_goesOn_0
      refine ⟨fun q => absurd ?_ q, fun _ => m_fail0 (F := 2) g0 hq⟩
      rw [c1, t_eq, n_toInt (by omega), show (400 : Int32).toInt = 400 from rfl]; omega
theorem m_is {T : Tb} {hc hm : hp} {t W x : Nat} {Q0 : Int32} {Q : Int32 → Prop} (g : GS T hc hm t W Q0) (hx : x ≤ 36) (hq1 : tbK T t = x → Q 1) (hq0 : ¬ tbK T t = x → Q 0) : w_X12_is hm (nI x) Q := by
  obtain ⟨⟨a1, a2, a3, a4, a5, a6⟩, _, c1, c2, c3, c4⟩ := g
  have k36 := a1.2.1 t
  unfold w_X12_is w_X12_is_0
  rw [c2, c1, ix_n (n := t) (by omega), (a3 t a4 a5).1, nI_eq (by omega) (by omega)]
  exact ⟨fun q => absurd rfl q, fun _ => ⟨in_n (by omega) (by omega), hq0, hq1⟩⟩
theorem m_isF {hm : hp} {F : Nat} {P x : Int32} {Q : Int32 → Prop} (g : FM hm F P) (hq : Q 0) : w_X12_is hm x Q := ⟨fun _ => hq, fun q => absurd q (FM_ne g).1⟩
/-- behind a fault: t alone may change -/
theorem m_goesOnF {hm : hp} {F : Nat} {P : Int32} (g : FM hm F P) : ∃ hm1, eqE sM hm hm1 ∧ FM hm1 F P ∧ ∀ Q : hp → Prop, Q hm1 → w_X12_goesOn hm Q := by
  have g0 := g
  obtain ⟨a1, a2, a3, a4, t, a5, a6⟩ := g
  by_cases ht : t = 400
  · refine ⟨hm, eqE_refl _, g0, fun Q hq => ?_⟩
    unfold w_X12_goesOn w_X12_goesOn_0
    refine ⟨fun q => absurd (by rw [a6, ht]; rfl) q, fun _ => m_fail1 g0 hq⟩
  · refine ⟨mAdv hm t, mAdv_e, ⟨a1, a2, ?_, ?_, t + 1, by omega, gI_at _ _ _ _⟩, fun Q hq => ?_⟩
    · unfold mAdv; rw [gI_k _ _ (by decide)]; exact a3
    · unfold mAdv; rw [gI_k _ _ (by decide)]; exact a4
    · unfold w_X12_goesOn w_X12_goesOn_0
      refine ⟨fun _ h2 e2 => ?_, fun q => absurd q ?_⟩
      · rw [a6, ← nI_succ] at e2
        subst e2
        exact hq
      · rw [a6, t_eq, n_toInt (by omega), show (400 : Int32).toInt = 400 from rfl]; omega
theorem m_mustF {hm : hp} {F : Nat} {P x : Int32} {Q : hp → Prop} (g : FM hm F P) (hq : Q hm) : w_X12_must hm x Q := by
  unfold w_X12_must w_X12_must_0
  exact m_isF g ⟨fun _ => m_fail1 g hq, fun q => absurd rfl q⟩
theorem m_boundedF {hm : hp} {F : Nat} {P x y : Int32} {Q : Int32 → hp → Prop} (g : FM hm F P) (hq : Q x hm) : w_X12_bounded hm x y Q := by
  unfold w_X12_bounded w_X12_bounded_0 w_X12_bounded_15
  exact ⟨fun _ => m_fail1 g hq, fun q => absurd (FM_ne g).2.2 q⟩
/-- a token of kind x is taken -/
theorem L_take {T : Tb} {hc hm : hp} {t W x : Nat} {Q0 cx mx : Int32} (g : GS T hc hm t W Q0) (hx1 : 1 ≤ x) (hx : x ≤ 36) (ec : cx = cK x) (em : mx = nI x) :
    (∃ hc1 hm1, eqE s2 hc hc1 ∧ eqE sM hm hm1 ∧ tbK T t = x ∧ GS T hc1 hm1 (t + 1) W Q0 ∧ (∀ Q : Int32 → hp → Prop, Q 1 hc1 → w_X5_take hc cx Q) ∧ (∀ Q : hp → Prop, Q hm1 → w_X12_must hm mx Q)) ∨
    (∃ hc1 hm1, eqE s2 hc hc1 ∧ eqE sM hm hm1 ∧ BS hc1 hm1 ∧ (∀ Q : Int32 → hp → Prop, Q 0 hc1 → w_X5_take hc cx Q) ∧ (∀ Q : hp → Prop, Q hm1 → w_X12_must hm mx Q)) := by
  subst ec em
  have a1 := g.1.1
  by_cases hk : tbK T t = x
  · have mm : ∀ {hm1 : hp} (rm : ∀ Q : hp → Prop, Q hm1 → w_X12_goesOn hm Q) (Q : hp → Prop), Q hm1 → w_X12_must hm (nI x) Q := fun {hm1} rm Q hq => by
      unfold w_X12_must w_X12_must_0
      exact m_is g hx (fun _ => ⟨fun q => absurd q (by decide), fun _ => rm _ hq⟩) (fun q => absurd hk q)
    rcases L_next g (by omega) with ⟨hc1, hm1, e1, e2, g1, rc, rm⟩ | ⟨hc1, hm1, e1, e2, g1, rc, rm⟩
    · rw [hk] at rc
      exact Or.inl ⟨hc1, hm1, e1, e2, hk, g1, rc, mm rm⟩
    · rw [hk] at rc
      exact Or.inr ⟨hc1, hm1, e1, e2, g1, rc, mm rm⟩
  · right
    refine ⟨cSt T hc 1 t, mSt T hm 1 t, cSt_e, mSt_e, BS_st g (by omega) (by omega), fun Q hq => ?_, fun Q hq => ?_⟩
    · unfold w_X5_take w_X5_take_0
      exact c_kind g ⟨fun q => absurd ((cK_inj (a1.2.1 t) hx).mp q) hk, fun _ => c_stop (F := 1) g ⟨isZ0, hq⟩⟩
    · unfold w_X12_must w_X12_must_0
      exact m_is g hx (fun q => absurd q hk) (fun _ => ⟨fun _ => m_fail0 (F := 1) g hq, fun q => absurd rfl q⟩)
/-! each side by itself -/
def CH (T : Tb) (hc : hp) (t W : Nat) (Q : Int32) : Prop := (okTb T ∧ cTb T hc ∧ t ≤ 400 ∧ t ≤ tbC T) ∧ gI hc 2 2 = nI t ∧ gI hc 2 1 = nI W ∧ gI hc 2 0 = Q
def MH (T : Tb) (hm : hp) (t W : Nat) (Q : Int32) : Prop := (okTb T ∧ mTb T hm ∧ t ≤ 400 ∧ t ≤ tbC T) ∧ gI hm 0 11 = nI t ∧ gI hm 0 13 = 0 ∧ gI hm 0 15 = nI W ∧ (¬ W = 0 → gI hm 0 16 = Q)
theorem GS_c {T : Tb} {hc hm : hp} {t W : Nat} {Q : Int32} (g : GS T hc hm t W Q) : CH T hc t W Q := ⟨⟨g.1.1, g.1.2.1, g.1.2.2.2.1, g.1.2.2.2.2.1⟩, g.2.1⟩
theorem GS_m {T : Tb} {hc hm : hp} {t W : Nat} {Q : Int32} (g : GS T hc hm t W Q) : MH T hm t W Q := ⟨⟨g.1.1, g.1.2.2.1, g.1.2.2.2.1, g.1.2.2.2.2.1⟩, g.2.2⟩
theorem GS_n {T : Tb} {hc hm : hp} {t W : Nat} {Q : Int32} (g : GS T hc hm t W Q) : nOk T t W Q := g.1.2.2.2.2.2
theorem GS_mk {T : Tb} {hc hm : hp} {t W : Nat} {Q : Int32} (c : CH T hc t W Q) (m : MH T hm t W Q) (n : nOk T t W Q) : GS T hc hm t W Q := ⟨⟨c.1.1, c.1.2.1, m.1.2.1, c.1.2.2.1, c.1.2.2.2, n⟩, c.2, m.2⟩
theorem CH_f {T : Tb} {hc hc1 : hp} {t W : Nat} {Q : Int32} (ec : agI kGC hc hc1) (g : CH T hc t W Q) : CH T hc1 t W Q := by
  obtain ⟨⟨a1, a2, a4, a5⟩, b1, b2, b3⟩ := g
  refine ⟨⟨a1, cTb_f (agI_w ec (fun a j q => by unfold kGC; omega)) a2, a4, a5⟩, ?_, ?_, ?_⟩
  · rw [(ec 2 2 (by unfold kGC; omega)).1]; exact b1
  · rw [(ec 2 1 (by unfold kGC; omega)).1]; exact b2
  · rw [(ec 2 0 (by unfold kGC; omega)).1]; exact b3
theorem MH_f {T : Tb} {hm hm1 : hp} {t W : Nat} {Q : Int32} (em : agI kGM hm hm1) (g : MH T hm t W Q) : MH T hm1 t W Q := by
  obtain ⟨⟨a1, a3, a4, a5⟩, c1, c2, c3, c4⟩ := g
  refine ⟨⟨a1, mTb_f (agI_w em (fun a j q => by unfold kGM; omega)) a3, a4, a5⟩, ?_, ?_, ?_, fun q => ?_⟩
  · rw [(em 0 11 (by unfold kGM; omega)).1]; exact c1
  · rw [(em 0 13 (by unfold kGM; omega)).1]; exact c2
  · rw [(em 0 15 (by unfold kGM; omega)).1]; exact c3
  · rw [(em 0 16 (by unfold kGM; omega)).1]; exact c4 q
theorem kindH {T : Tb} {hc : hp} {t W : Nat} {Q0 : Int32} {Q : Int32 → Prop} (g : CH T hc t W Q0) (hq : Q (cK (tbK T t))) : w_X5_kind hc Q := by
  obtain ⟨⟨a1, a2, a4, a5⟩, b1, b2, b3⟩ := g
  unfold w_X5_kind w_X5_kind_0
  rw [b1, ix_n (n := t) (by omega), (a2 t a4 a5).1]
  exact ⟨fun c => absurd c (nI_nlt (a := 400) (b := t) a4 (by omega)), fun _ => ⟨in_n (by omega) (by omega), hq⟩⟩
theorem stopH {T : Tb} {hc : hp} {t W F : Nat} {Q0 : Int32} {Q : Int32 → hp → Prop} (g : CH T hc t W Q0) (hq : Q 0 (cSt T hc F t)) : w_X5_stop hc (nI F) Q := by
  obtain ⟨⟨a1, a2, a4, a5⟩, b1, b2, b3⟩ := g
  unfold w_X5_stop w_X5_stop_0
  intro h1 e1
  subst e1
  rw [gI_k _ _ (by decide), b1]
  refine ⟨in_n (by omega) (by omega), fun h2 e2 => ?_⟩
  rw [ix_n (n := t) (by omega), gI_o _ _ (by decide), (a2 t a4 a5).2.1] at e2
  subst e2
  exact hq
theorem failH {T : Tb} {hm : hp} {t W F : Nat} {Q0 : Int32} {Q : hp → Prop} (g : MH T hm t W Q0) (hq : Q (mSt T hm F t)) : w_X12_fail hm (nI F) Q := by
  obtain ⟨⟨a1, a3, a4, a5⟩, c1, c2, c3, c4⟩ := g
  unfold w_X12_fail w_X12_fail_0
  refine ⟨fun _ h1 e1 => ?_, fun q => absurd (by rw [c2]; decide) q⟩
  subst e1
  rw [gI_k _ _ (by decide), c1]
  refine ⟨in_n (by omega) (by omega), fun h2 e2 => ?_⟩
  rw [ix_n (n := t) (by omega), gI_o _ _ (by decide), (a3 t a4 a5).2.1] at e2
  subst e2
  exact hq
theorem FM_st {T : Tb} {hm : hp} {t W F : Nat} {Q0 : Int32} (g : MH T hm t W Q0) (h1 : 1 ≤ F) (h2 : F ≤ 2) : FM (mSt T hm F t) F (nI (tbS T t)) := by
  refine ⟨h1, h2, by unfold mSt; rw [gI_k _ _ (by decide)]; exact gI_at _ _ _ _, gI_at _ _ _ _, t, g.1.2.2.1, ?_⟩
  unfold mSt
  rw [gI_k _ _ (by decide), gI_k _ _ (by decide)]
  exact g.2.1
theorem CF_st {T : Tb} {hc : hp} {F t : Nat} : CF (cSt T hc F t) F (nI (tbS T t)) := ⟨by unfold cSt; rw [gI_k _ _ (by decide)]; exact gI_at _ _ _ _, gI_at _ _ _ _⟩
theorem CH_adv {T : Tb} {hc : hp} {t W : Nat} {Q : Int32} (g : CH T hc t W Q) (ht : t < 400) (hk : ¬ tbK T t = 0) : CH T (cAdv hc t) (t + 1) W Q := by
  obtain ⟨⟨a1, a2, a4, a5⟩, b1, b2, b3⟩ := g
  refine ⟨⟨a1, cTb_f (agI_sI (agI_r _) (by decide)) a2, by omega, lt_tb a1 hk⟩, gI_at _ _ _ _, ?_, ?_⟩
  · unfold cAdv; rw [gI_k _ _ (by decide)]; exact b2
  · unfold cAdv; rw [gI_k _ _ (by decide)]; exact b3
theorem MH_adv {T : Tb} {hm : hp} {t W : Nat} {Q : Int32} (g : MH T hm t W Q) (ht : t < 400) (hk : ¬ tbK T t = 0) : MH T (mAdv hm t) (t + 1) W Q := by
  obtain ⟨⟨a1, a3, a4, a5⟩, c1, c2, c3, c4⟩ := g
  refine ⟨⟨a1, mTb_f (agI_sI (agI_r _) (by decide)) a3, by omega, lt_tb a1 hk⟩, gI_at _ _ _ _, ?_, ?_, fun q => ?_⟩
  · unfold mAdv; rw [gI_k _ _ (by decide)]; exact c2
  · unfold mAdv; rw [gI_k _ _ (by decide)]; exact c3
  · unfold mAdv; rw [gI_k _ _ (by decide)]; exact c4 q
theorem take1 {T : Tb} {hc : hp} {t W x : Nat} {Q0 : Int32} {Q : Int32 → hp → Prop} (g : CH T hc t W Q0) (hk : tbK T t = x) (ht : t < 400) (hq : Q 1 (cAdv hc t)) : w_X5_take hc (cK x) Q := by
  have b1 := g.2.1
  subst hk
  unfold w_X5_take w_X5_take_0
  refine kindH g ⟨fun _ => ⟨fun _ => ?_, fun q => absurd ?_ q⟩, fun q => absurd rfl q⟩
  · intro h5 e5
    rw [b1, ← nI_succ] at e5
    subst e5
    exact hq
  · rw [b1, t_lt, n_toInt (by omega), show (400 : Int32).toInt = 400 from rfl]; omega
theorem take2 {T : Tb} {hc : hp} {t W x : Nat} {Q0 : Int32} {Q : Int32 → hp → Prop} (g : CH T hc t W Q0) (hk : tbK T t = x) (ht : ¬ t < 400) (hq : Q 0 (cSt T hc 2 t)) : w_X5_take hc (cK x) Q := by
  have b1 := g.2.1
  have t4 := g.1.2.2.1
  subst hk
  unfold w_X5_take w_X5_take_0
  refine kindH g ⟨fun _ => ⟨fun q => absurd q ?_, fun _ => stopH (F := 2) g ⟨isZ0, hq⟩⟩, fun q => absurd rfl q⟩
  rw [b1, t_lt, n_toInt (by omega), show (400 : Int32).toInt = 400 from rfl]; omega
theorem take3 {T : Tb} {hc : hp} {t W x : Nat} {Q0 : Int32} {Q : Int32 → hp → Prop} (g : CH T hc t W Q0) (hx : x ≤ 36) (hk : ¬ tbK T t = x) (hq : Q 0 (cSt T hc 1 t)) : w_X5_take hc (cK x) Q := by
  unfold w_X5_take w_X5_take_0
  exact kindH g ⟨fun q => absurd ((cK_inj (g.1.1.2.1 t) hx).mp q) hk, fun _ => stopH (F := 1) g ⟨isZ0, hq⟩⟩
theorem isH {T : Tb} {hm : hp} {t W x : Nat} {Q0 : Int32} {Q : Int32 → Prop} (g : MH T hm t W Q0) (hx : x ≤ 36) (hq1 : tbK T t = x → Q 1) (hq0 : ¬ tbK T t = x → Q 0) : w_X12_is hm (nI x) Q := by
  obtain ⟨⟨a1, a3, a4, a5⟩, c1, c2, c3, c4⟩ := g
  have k36 := a1.2.1 t
  unfold w_X12_is w_X12_is_0
  rw [c2, c1, ix_n (n := t) (by omega), (a3 t a4 a5).1, nI_eq (by omega) (by omega)]
  exact ⟨fun q => absurd rfl q, fun _ => ⟨in_n (by omega) (by omega), hq0, hq1⟩⟩
theorem goes1 {T : Tb} {hm : hp} {t W : Nat} {Q0 : Int32} {Q : hp → Prop} (g : MH T hm t W Q0) (ht : t < 400) (hq : Q (mAdv hm t)) : w_X12_goesOn hm Q := by
  unfold w_X12_goesOn w_X12_goesOn_0
  refine ⟨fun _ h2 e2 => ?_, fun q => absurd q ?_⟩
  · rw [g.2.1, ← nI_succ] at e2
    subst e2
    exact hq
  · rw [g.2.1, t_eq, n_toInt (by omega), show (400 : Int32).toInt = 400 from rfl]; omega
theorem goes2 {T : Tb} {hm : hp} {t W : Nat} {Q0 : Int32} {Q : hp → Prop} (g : MH T hm t W Q0) (ht : ¬ t < 400) (hq : Q (mSt T hm 2 t)) : w_X12_goesOn hm Q := by
  have := g.1.2.2.1
  unfold w_X12_goesOn w_X12_goesOn_0
  refine ⟨fun q => absurd ?_ q, fun _ => failH (F := 2) g hq⟩
  rw [g.2.1, t_eq, n_toInt (by omega), show (400 : Int32).toInt = 400 from rfl]; omega
/-! values and notes -/
def tv (T : Tb) (q : Nat) : Nat := (tbV T q).toInt.toNat
theorem tv_in {T : Tb} {q : Nat} (o : okTb T) (h : tbK T q = 2) : tv T q ≤ 9999 ∧ (tbV T q).toInt = (tv T q : Int) ∧ (tbV T q).toInt32 = nI (tv T q) := by
  have b := o.2.2.2.2.2 q h
  have e : (tbV T q).toInt = (tv T q : Int) := by unfold tv; omega
  have l : tv T q ≤ 9999 := by omega
  refine ⟨l, e, t_eq.mpr ?_⟩
  rw [Int64.toInt_toInt32, n_toInt (by omega), e]
  exact Int.bmod_eq_of_le (by omega) (by omega)
theorem takenAny {T : Tb} {hc : hp} {t W k : Nat} {Q0 : Int32} {Q : Int64 → Prop} (g : CH T hc t W Q0) (hk : k ≤ t) (hq : ∀ v, (t - k < tbC T → v = tbV T (t - k)) → Q v) : w_X5_taken hc (nI k) Q := by
  obtain ⟨⟨a1, a2, a4, a5⟩, b1, b2, b3⟩ := g
  unfold w_X5_taken w_X5_taken_0
  rw [b1, nI_sub hk (by omega), ix_n (n := t - k) (by omega)]
  exact ⟨fun c => absurd c (nI_nlt hk (by omega)), fun _ => ⟨in_n (by omega) (by omega), hq _ (fun q => (a2 (t - k) (by omega) (by omega)).2.2 q)⟩⟩
theorem takenH {T : Tb} {hc : hp} {t W k : Nat} {Q0 : Int32} {Q : Int64 → Prop} (g : CH T hc t W Q0) (hk : k ≤ t) (hl : ¬ tbK T (t - k) = 0) (hq : Q (tbV T (t - k))) : w_X5_taken hc (nI k) Q :=
  takenAny g hk (fun v e => by rw [e (lt_tb g.1.1 hl)]; exact hq)
def nt (W F : Nat) : Nat := if W = 0 then F else W
def nq (W : Nat) (Q P : Int32) : Int32 := if W = 0 then P else Q
def noteC (T : Tb) (hc : hp) (W F q : Nat) : hp := if W = 0 then sI (sI hc 2 1 (nI F)) 2 0 (nI (tbS T q)) else hc
def noteM (T : Tb) (hm : hp) (W F q : Nat) : hp := if W = 0 then sI (sI hm 0 15 (nI F)) 0 16 (nI (tbS T q)) else hm
theorem noteC_e {T : Tb} {hc : hp} {W F q : Nat} : eqE s2 hc (noteC T hc W F q) := by
  unfold noteC
  split
  · exact eqE_sI (eqE_sI (eqE_refl _) (by unfold s2; omega)) (by unfold s2; omega)
  · exact eqE_refl _
theorem noteM_e {T : Tb} {hm : hp} {W F q : Nat} : eqE sM hm (noteM T hm W F q) := by
  unfold noteM
  split
  · exact eqE_sI (eqE_sI (eqE_refl _) (by unfold sM; omega)) (by unfold sM; omega)
  · exact eqE_refl _
theorem CH_note {T : Tb} {hc : hp} {t W F q : Nat} {Q0 : Int32} (g : CH T hc t W Q0) : CH T (noteC T hc W F q) t (nt W F) (nq W Q0 (nI (tbS T q))) := by
  unfold noteC nt nq
  by_cases w : W = 0
  · rw [if_pos w, if_pos w, if_pos w]
    obtain ⟨⟨a1, a2, a4, a5⟩, b1, b2, b3⟩ := g
    refine ⟨⟨a1, cTb_f (agI_sI (agI_sI (agI_r _) (by decide)) (by decide)) a2, a4, a5⟩, ?_, ?_, gI_at _ _ _ _⟩
    · rw [gI_k _ _ (by decide), gI_k _ _ (by decide)]; exact b1
    · rw [gI_k _ _ (by decide)]; exact gI_at _ _ _ _
  · rw [if_neg w, if_neg w, if_neg w]
    exact g
theorem MH_note {T : Tb} {hm : hp} {t W F q : Nat} {Q0 : Int32} (g : MH T hm t W Q0) : MH T (noteM T hm W F q) t (nt W F) (nq W Q0 (nI (tbS T q))) := by
  unfold noteM nt nq
  by_cases w : W = 0
  · rw [if_pos w, if_pos w, if_pos w]
    obtain ⟨⟨a1, a3, a4, a5⟩, c1, c2, c3, c4⟩ := g
    refine ⟨⟨a1, mTb_f (agI_sI (agI_sI (agI_r _) (by decide)) (by decide)) a3, a4, a5⟩, ?_, ?_, ?_, fun _ => gI_at _ _ _ _⟩
    · rw [gI_k _ _ (by decide), gI_k _ _ (by decide)]; exact c1
    · rw [gI_k _ _ (by decide), gI_k _ _ (by decide)]; exact c2
    · rw [gI_k _ _ (by decide)]; exact gI_at _ _ _ _
  · rw [if_neg w, if_neg w, if_neg w]
    exact g
theorem noteH {T : Tb} {hc : hp} {t W F k q : Nat} {Q0 : Int32} {Q : hp → Prop} (g : CH T hc t W Q0) (hk : k + q = t) (hW : W ≤ 5) (hq : Q (noteC T hc W F q)) : w_X5_note hc (nI F) (nI k) Q := by
  obtain ⟨⟨a1, a2, a4, a5⟩, b1, b2, b3⟩ := g
  unfold noteC at hq
  unfold w_X5_note w_X5_note_0
  have z : nI W = 0 ↔ W = 0 := by rw [show (0 : Int32) = nI 0 from rfl, nI_eq (by omega) (by omega)]
  rw [b2, b1, z]
  refine ⟨fun n => ?_, fun w => ⟨fun c => absurd c (nI_nlt (by omega) (by omega)), fun _ h3 e3 => ?_⟩⟩
  · rw [if_neg n] at hq; exact hq
  · rw [if_pos w] at hq
    have e2 : gI h3 2 2 = nI t := by rw [e3, gI_k _ _ (by decide)]; exact b1
    have e5 : gI h3 5 q = nI (tbS T q) := by rw [e3, gI_o _ _ (by decide)]; exact (a2 q (by omega) (by omega)).2.1
    rw [e2, nI_sub (by omega) (by omega), show t - k = q from by omega]
    refine ⟨in_n (by omega) (by omega), fun h4 e4 => ?_⟩
    rw [ix_n (n := q) (by omega), e5, e3] at e4
    subst e4
    exact hq
/-- the note that was, against one at q -/
def prv (T : Tb) (W : Nat) (Q : Int32) (F q : Nat) : Prop := W ≤ 5 ∧ (¬ W = 0 → ∃ k, Q = nI (tbS T k) ∧ (k < q ∨ (k = q ∧ W ≤ F)))
theorem prv_n {T : Tb} {t W F q : Nat} {Q : Int32} (n : nOk T t W Q) (h : t ≤ q) : prv T W Q F q := ⟨n.1, fun w => by
  obtain ⟨k, h1, h2⟩ := n.2.2 w
  exact ⟨k, h2, Or.inl (by omega)⟩⟩
theorem prv_same {T : Tb} {W F q : Nat} {Q : Int32} (p : prv T W Q F q) (hF : F ≤ 5) : prv T (nt W F) (nq W Q (nI (tbS T q))) F q := by
  unfold nt nq
  by_cases w : W = 0
  · rw [if_pos w, if_pos w]
    exact ⟨hF, fun _ => ⟨q, rfl, Or.inr ⟨rfl, Nat.le_refl _⟩⟩⟩
  · rw [if_neg w, if_neg w]; exact p
theorem nOk_nt {T : Tb} {t W F q : Nat} {Q : Int32} (n : nOk T t W Q) (h1 : 1 ≤ F) (hF : F ≤ 5) (hq : q < t) : nOk T t (nt W F) (nq W Q (nI (tbS T q))) := by
  unfold nt nq
  by_cases w : W = 0
  · rw [if_pos w, if_pos w]
    exact ⟨hF, fun z => absurd z (by omega), fun _ => ⟨q, hq, rfl⟩⟩
  · rw [if_neg w, if_neg w]; exact n
theorem amissH {T : Tb} {hm : hp} {t W F q : Nat} {Q0 : Int32} {Q : hp → Prop} (g : MH T hm t W Q0) (p : prv T W Q0 F q) (hF : F ≤ 6) (q4 : q ≤ 400) (qc : q ≤ tbC T) (hq : Q (noteM T hm W F q)) : w_X12_amiss hm (nI F) (nI q) Q := by
  obtain ⟨⟨a1, a3, a4, a5⟩, c1, c2, c3, c4⟩ := g
  obtain ⟨w5, pp⟩ := p
  have s2 := a1.2.2.2.2.1
  unfold noteM at hq
  unfold w_X12_amiss w_X12_amiss_0
  have z : nI W = 0 ↔ W = 0 := by rw [show (0 : Int32) = nI 0 from rfl, nI_eq (by omega) (by omega)]
  rw [ix_n (n := q) (by omega), (a3 q q4 qc).2.1, c2, c3, z]
  refine ⟨in_n (by omega) (by omega), fun x ex => ⟨fun c => absurd c (by decide), fun _ => ⟨fun w => ?_, fun w => ?_⟩⟩⟩
  · rw [if_pos w] at hq
    unfold w_X12_amiss_46
    intro h7 e7 h8 e8
    rw [ex, e7] at e8
    subst e8
    exact hq
  · rw [if_neg w] at hq
    obtain ⟨k, ek, hk⟩ := pp w
    have := s2 k
    have := s2 q
    rw [c4 w, ek, ex]
    refine ⟨fun _ => hq, fun n1 => ⟨fun n2 => ?_, fun _ => ⟨fun n3 => ?_, fun _ => hq⟩⟩⟩
    · rcases hk with hk | ⟨hk, _⟩
      · exact absurd (nI_lt (a1.2.2.2.1 k q hk q4 qc) (by omega)) n1
      · exact absurd (by rw [hk]) n2
    · rcases hk with hk | ⟨hk, hw⟩
      · exact absurd (nI_lt (a1.2.2.2.1 k q hk q4 qc) (by omega)) n1
      · exact absurd n3 (nI_nlt hw (by omega))
/-- a number at t - k, from lo to hi -/
theorem withinH {T : Tb} {hc : hp} {t W k lo hi : Nat} {Q0 : Int32} {Q : Int32 → hp → Prop} (g : CH T hc t W Q0) (hk : k ≤ t) (hK : tbK T (t - k) = 2) (hlo : lo ≤ 999) (hhi : hi ≤ 999) (hW : W ≤ 5) (hq1 : lo ≤ tv T (t - k) ∧ tv T (t - k) ≤ hi → Q 1 hc) (hq0 : ¬ (lo ≤ tv T (t - k) ∧ tv T (t - k) ≤ hi) → Q 0 (noteC T hc W 5 (t - k))) : w_X5_takenWithin hc (nI k) (nI lo) (nI hi) Q := by
  have v := tv_in g.1.1 hK
  unfold w_X5_takenWithin w_X5_takenWithin_0
  refine takenH g hk (by omega) (c_within (fun c => ⟨fun _ => ⟨isZ1, hq1 ?_⟩, fun q => absurd q (by decide)⟩) (fun c => ⟨fun q => absurd rfl q, fun _ => noteH (F := 5) g (by omega) hW ⟨isZ0, hq0 ?_⟩⟩))
  · rw [tL_int, tL_int, n_toInt (by omega), n_toInt (by omega), v.2.1] at c; omega
  · rw [tL_int, tL_int, n_toInt (by omega), n_toInt (by omega), v.2.1] at c; omega
/-- the reference's -/
theorem bnd1 {T : Tb} {hm : hp} {t W lo hi : Nat} {Q0 : Int32} {Q : Int32 → hp → Prop} (g : MH T hm t W Q0) (p : prv T W Q0 5 t) (hK : tbK T t = 2) (hlo : lo ≤ 999) (hhi : hi ≤ 999) (ht : t < 400) (hq1 : lo ≤ tv T t ∧ tv T t ≤ hi → Q (nI (tv T t)) (mAdv hm t)) (hq0 : ¬ (lo ≤ tv T t ∧ tv T t ≤ hi) → Q (nI (tv T t)) (mAdv (noteM T hm W 5 t) t)) : w_X12_bounded hm (nI lo) (nI hi) Q := by
  have g0 := g
  obtain ⟨⟨a1, a3, a4, a5⟩, c1, c2, c3, c4⟩ := g
  have v := tv_in a1 hK
  unfold w_X12_bounded w_X12_bounded_0
  rw [c2]
  refine ⟨fun c => absurd c (by decide), fun _ => isH (x := 2) g0 (by omega) (fun _ => ⟨fun _ => ?_, fun q => absurd q (by decide)⟩) (fun q => absurd hK q)⟩
  rw [c1, ix_n (n := t) (by omega), (a3 t a4 a5).2.2.1 hK, v.2.2]
  refine ⟨in_n (by omega) (by omega), fun x ex => ?_⟩
  subst ex
  have out : ¬ (lo ≤ tv T t ∧ tv T t ≤ hi) → w_X12_bounded_42 Q (nI (tv T t)) hm := fun n => by
    unfold w_X12_bounded_42 w_X12_bounded_51
    rw [c1]
    exact amissH (F := 5) g0 p (by omega) a4 a5 (goes1 (MH_note g0) ht (hq0 n))
  refine ⟨fun c => out ?_, fun c => ⟨fun d => ?_, fun d => out ?_⟩⟩
  · rw [t_lt, n_toInt (by omega), n_toInt (by omega)] at c; omega
  · unfold w_X12_bounded_51
    rw [t_lt, n_toInt (by omega), n_toInt (by omega)] at c
    rw [t_le, n_toInt (by omega), n_toInt (by omega)] at d
    exact goes1 g0 ht (hq1 ⟨by omega, by omega⟩)
  · rw [t_le, n_toInt (by omega), n_toInt (by omega)] at d; omega
theorem bnd2 {T : Tb} {hm : hp} {t W lo hi : Nat} {Q0 : Int32} (g : MH T hm t W Q0) (p : prv T W Q0 5 t) (hK : tbK T t = 2) (hlo : lo ≤ 999) (hhi : hi ≤ 999) (ht : ¬ t < 400) : ∃ hm1, eqE sM hm hm1 ∧ FM hm1 2 (nI (tbS T t)) ∧ ∀ Q : Int32 → hp → Prop, Q (nI (tv T t)) hm1 → w_X12_bounded hm (nI lo) (nI hi) Q := by
  have g0 := g
  obtain ⟨⟨a1, a3, a4, a5⟩, c1, c2, c3, c4⟩ := g
  have v := tv_in a1 hK
  have st : ∀ {Q : Int32 → hp → Prop}, (lo ≤ tv T t ∧ tv T t ≤ hi → w_X12_bounded_51 Q (nI (tv T t)) hm) → (¬ (lo ≤ tv T t ∧ tv T t ≤ hi) → w_X12_bounded_42 Q (nI (tv T t)) hm) → w_X12_bounded hm (nI lo) (nI hi) Q := fun h1 h2 => by
    unfold w_X12_bounded w_X12_bounded_0
    rw [c2]
    refine ⟨fun c => absurd c (by decide), fun _ => isH (x := 2) g0 (by omega) (fun _ => ⟨fun _ => ?_, fun q => absurd q (by decide)⟩) (fun q => absurd hK q)⟩
    rw [c1, ix_n (n := t) (by omega), (a3 t a4 a5).2.2.1 hK, v.2.2]
    refine ⟨in_n (by omega) (by omega), fun x ex => ?_⟩
    subst ex
    refine ⟨fun c => h2 ?_, fun c => ⟨fun d => ?_, fun d => h2 ?_⟩⟩
    · rw [t_lt, n_toInt (by omega), n_toInt (by omega)] at c; omega
    · rw [t_lt, n_toInt (by omega), n_toInt (by omega)] at c
      rw [t_le, n_toInt (by omega), n_toInt (by omega)] at d
      exact h1 ⟨by omega, by omega⟩
    · rw [t_le, n_toInt (by omega), n_toInt (by omega)] at d; omega
  by_cases r : lo ≤ tv T t ∧ tv T t ≤ hi
  · refine ⟨mSt T hm 2 t, mSt_e, FM_st g0 (by omega) (by omega), fun Q hq => st (fun _ => ?_) (fun n => absurd r n)⟩
    exact goes2 g0 ht hq
  · refine ⟨mSt T (noteM T hm W 5 t) 2 t, eqE_trans noteM_e mSt_e, FM_st (MH_note g0) (by omega) (by omega), fun Q hq => st (fun n => absurd n r) (fun _ => ?_)⟩
    unfold w_X12_bounded_42 w_X12_bounded_51
    rw [c1]
    exact amissH (F := 5) g0 p (by omega) a4 a5 (goes2 (MH_note g0) ht hq)
theorem bnd3 {T : Tb} {hm : hp} {t W : Nat} {Q0 x y : Int32} {Q : Int32 → hp → Prop} (g : MH T hm t W Q0) (hK : ¬ tbK T t = 2) (hq : Q x (mSt T hm 1 t)) : w_X12_bounded hm x y Q := by
  unfold w_X12_bounded w_X12_bounded_0 w_X12_bounded_15
  rw [g.2.2.1]
  exact ⟨fun c => absurd c (by decide), fun _ => isH (x := 2) g (by omega) (fun q => absurd q hK) (fun _ => ⟨fun q => absurd rfl q, fun _ => failH (F := 1) g hq⟩)⟩
/-! laws: what waits and what has come out -/
def rkN (k : Nat) : Nat := if k = 10 ∨ k = 15 then 2 else if k = 8 ∨ k = 9 then 1 else 0
theorem rkN_le (k : Nat) : rkN k ≤ 2 := by unfold rkN; split <;> (try split) <;> omega
def okWl : List Nat → Prop
  | [] => True
  | k :: r => okWl r ∧ (k = 6 ∨ ((k = 8 ∨ k = 9 ∨ k = 10 ∨ k = 15) ∧ rkN (r.headD 6) < rkN k))
def nP : List Nat → Nat
  | [] => 0
  | k :: r => (if k = 6 then 1 else 0) + nP r
def nS : List Nat → Nat
  | [] => 0
  | k :: r => (if k = 6 then 0 else 1) + nS r
theorem wl_ps : ∀ wl : List Nat, wl.length = nP wl + nS wl
  | [] => rfl
  | k :: r => by
    have := wl_ps r
    show r.length + 1 = ((if k = 6 then 1 else 0) + nP r) + ((if k = 6 then 0 else 1) + nS r)
    split <;> omega
theorem wl_len : ∀ wl : List Nat, okWl wl → wl.length ≤ 3 * nP wl + rkN (wl.headD 6)
  | [], _ => Nat.zero_le _
  | k :: r, h => by
    have i := wl_len r h.1
    have b := rkN_le (r.headD 6)
    show r.length + 1 ≤ 3 * ((if k = 6 then 1 else 0) + nP r) + rkN k
    rcases h.2 with q | ⟨q, l⟩
    · rw [if_pos q]; omega
    · rw [if_neg (by omega)]; omega
theorem wl_in : ∀ {wl : List Nat} {k : Nat} {r : List Nat}, okWl wl → wl = k :: r → k = 6 ∨ k = 8 ∨ k = 9 ∨ k = 10 ∨ k = 15 := fun h e => by
  subst e
  rcases h.2 with q | ⟨q, _⟩
  · exact Or.inl q
  · omega
theorem wl_20 {wl : List Nat} (h : okWl wl) (p : nP wl ≤ 6) : wl.length ≤ 20 := by
  have := wl_len wl h
  have := rkN_le (wl.headD 6)
  omega
def lawPut (h : hp) (m : Nat) (k v : Int32) : hp := sI (sI (sI h 10 m k) 11 m v) 9 2 (nI (m + 1))
def emPut (h : hp) (m : Nat) (k v : Int32) : hp := sI (sI (sI h 29 m k) 30 m v) 0 43 (nI (m + 1))
theorem c_lawAdd {h : hp} {m : Nat} {k v : Int32} {Q : Int32 → hp → Prop} (e : gI h 9 2 = nI m) (hm : m < 402) (hq : Q (nI m) (lawPut h m k v)) : w_X2_add 9 h k v Q := by
  unfold w_X2_add w_X2_add_0
  rw [e]
  refine ⟨fun _ => ⟨in_n (by omega) (by omega), fun h2 e2 => ?_⟩, fun c => absurd (nI_lt (a := m) (b := 402) (by omega) (by omega)) c⟩
  rw [ix_n (n := m) (by omega)] at e2
  subst e2
  rw [gI_o _ _ (by decide), e]
  refine ⟨in_n (by omega) (by omega), fun h3 e3 => ?_⟩
  rw [ix_n (n := m) (by omega)] at e3
  subst e3
  intro h4 e4
  rw [gI_o _ _ (by decide), gI_o _ _ (by decide), e, ← nI_succ] at e4
  subst e4
  rw [gI_at, nI_succ]
  have : nI m + 1 - 1 = nI m := by rw [← nI_succ, show (1 : Int32) = nI 1 from rfl, nI_sub (by omega) (by omega)]; rfl
  rw [this]
  unfold lawPut at hq
  rw [nI_succ] at hq
  exact hq
theorem m_emit {h : hp} {m : Nat} {k v : Int32} {Q : hp → Prop} (e : gI h 0 43 = nI m) (hm : m < 840) (hq : Q (emPut h m k v)) : w_X12_emit h k v Q := by
  unfold w_X12_emit w_X12_emit_0
  rw [e]
  refine ⟨in_n (by omega) (by omega), fun h1 e1 => ?_⟩
  rw [ix_n (n := m) (by omega)] at e1
  subst e1
  rw [gI_o _ _ (by decide), e]
  refine ⟨in_n (by omega) (by omega), fun h2 e2 h3 e3 => ?_⟩
  rw [ix_n (n := m) (by omega)] at e2
  subst e2
  rw [gI_o _ _ (by decide), gI_o _ _ (by decide), e, ← nI_succ] at e3
  subst e3
  exact hq
def PC (sh c0 : Nat) (op : Nat → Nat × Int32) (wl : List Nat) (e : Nat) (h : hp) : Prop := gI h 8 9 = nI wl.length ∧ stk 14 h (wl.map cK) ∧ gI h 9 2 = nI (e + sh) ∧ ∀ c, c0 ≤ c → c < e → isStep 9 h (c + sh) (op c)
def PM (B c0 : Nat) (op : Nat → Nat × Int32) (wl : List Nat) (e : Nat) (h : hp) : Prop := gI h 0 47 = nI wl.length ∧ stk 31 h (wl.map nI) ∧ gI h 0 43 = nI (B + e) ∧ ∀ c, c0 ≤ c → c < e → gI h 29 (B + c) = nI (op c).1 ∧ ((op c).1 < 2 → gI h 30 (B + c) = (op c).2)
def opP (op : Nat → Nat × Int32) (e k : Nat) (v : Int32) : Nat → Nat × Int32 := fun c => if c = e then (k, v) else op c
def wfD (op : Nat → Nat × Int32) (x y d : Nat) : Prop := x ≤ y ∧ ∃ D : Nat → Nat, D x = 0 ∧ D y = d ∧ ∀ c, x ≤ c → c < y → (op c).1 ≤ 5 ∧ D c ≤ 20 ∧ D (c + 1) ≤ 20 ∧ ((op c).1 < 2 → D (c + 1) = D c + 1) ∧ (2 ≤ (op c).1 → 2 ≤ D c ∧ D (c + 1) + 1 = D c) ∧ ((op c).1 = 1 → 0 ≤ (op c).2.toInt ∧ (op c).2.toInt < 6)
theorem wfD_E {op : Nat → Nat × Int32} {x y : Nat} (h : wfD op x y 1) : wfE op x y := h
theorem wfD_emit {op : Nat → Nat × Int32} {x e d d' k : Nat} {v : Int32} (h : wfD op x e d) (hk : k ≤ 5) (h20 : d ≤ 20) (h20' : d' ≤ 20) (h1 : k < 2 → d' = d + 1) (h2 : 2 ≤ k → 2 ≤ d ∧ d' + 1 = d) (h3 : k = 1 → 0 ≤ v.toInt ∧ v.toInt < 6) : wfD (opP op e k v) x (e + 1) d' := by
  obtain ⟨hx, D, d0, dy, hD⟩ := h
  refine ⟨by omega, fun c => if c = e + 1 then d' else D c, ?_, if_pos rfl, fun c h1' h2' => ?_⟩
  · show (if x = e + 1 then d' else D x) = 0
    rw [if_neg (by omega)]; exact d0
  · unfold opP
    by_cases z : c = e
    · subst z
      have g2 : (if c + 1 = c + 1 then d' else D (c + 1)) = d' := if_pos rfl
      have g3 : (if c = c then (k, v) else op c) = (k, v) := if_pos rfl
      have g1 : (if c = c + 1 then d' else D c) = d := by rw [if_neg (by omega)]; exact dy
      simp only [g3, g2, g1]
      exact ⟨hk, h20, h20', h1, h2, h3⟩
    · have g1 : (if c = e + 1 then d' else D c) = D c := if_neg (by omega)
      have g2 : (if c + 1 = e + 1 then d' else D (c + 1)) = D (c + 1) := if_neg (by omega)
      simp only [g1, g2, if_neg z]
      exact hD c h1' (by omega)
theorem stk_f {a : Nat} {h h1 : hp} : ∀ st : List Int32, (∀ j, j < st.length → gI h1 a j = gI h a j) → stk a h st → stk a h1 st
  | [], _, _ => trivial
  | v :: r, e, s => ⟨by rw [e r.length (Nat.lt_succ_self _)]; exact s.1, stk_f r (fun j hj => e j (Nat.lt_succ_of_lt hj)) s.2⟩
def kPC (n lo hi : Nat) (a j : Nat) : Prop := (a = 8 ∧ j = 9) ∨ (a = 14 ∧ j < n) ∨ (a = 9 ∧ j = 2) ∨ ((a = 10 ∨ a = 11) ∧ lo ≤ j ∧ j < hi)
theorem PC_f {sh c0 e : Nat} {op : Nat → Nat × Int32} {wl : List Nat} {h h1 : hp} (g : agI (kPC wl.length (c0 + sh) (e + sh)) h h1) (p : PC sh c0 op wl e h) : PC sh c0 op wl e h1 := by
  obtain ⟨p1, p2, p3, p4⟩ := p
  refine ⟨by rw [(g 8 9 (by unfold kPC; omega)).1]; exact p1, stk_f _ (fun j hj => ?_) p2, by rw [(g 9 2 (by unfold kPC; omega)).1]; exact p3, fun c h1' h2' => ?_⟩
  · rw [List.length_map] at hj
    exact (g 14 j (by unfold kPC; omega)).1
  · have := p4 c h1' h2'
    exact ⟨by rw [(g (9 + 1) (c + sh) (by unfold kPC; omega)).1]; exact this.1, fun q => by rw [(g (9 + 2) (c + sh) (by unfold kPC; omega)).1]; exact this.2 q⟩
def kPM (n lo hi : Nat) (a j : Nat) : Prop := (a = 0 ∧ (j = 47 ∨ j = 43)) ∨ (a = 31 ∧ j < n) ∨ ((a = 29 ∨ a = 30) ∧ lo ≤ j ∧ j < hi)
theorem PM_f {B c0 e : Nat} {op : Nat → Nat × Int32} {wl : List Nat} {h h1 : hp} (g : agI (kPM wl.length (B + c0) (B + e)) h h1) (p : PM B c0 op wl e h) : PM B c0 op wl e h1 := by
  obtain ⟨p1, p2, p3, p4⟩ := p
  refine ⟨by rw [(g 0 47 (by unfold kPM; omega)).1]; exact p1, stk_f _ (fun j hj => ?_) p2, by rw [(g 0 43 (by unfold kPM; omega)).1]; exact p3, fun c h1' h2' => ?_⟩
  · rw [List.length_map] at hj
    exact (g 31 j (by unfold kPM; omega)).1
  · have := p4 c h1' h2'
    exact ⟨by rw [(g 29 (B + c) (by unfold kPM; omega)).1]; exact this.1, fun q => by rw [(g 30 (B + c) (by unfold kPM; omega)).1]; exact this.2 q⟩
theorem PC_emit {sh c0 e k : Nat} {v : Int32} {op : Nat → Nat × Int32} {wl : List Nat} {h : hp} (p : PC sh c0 op wl e h) : PC sh c0 (opP op e k v) wl (e + 1) (lawPut h (e + sh) (opC k) v) := by
  obtain ⟨p1, p2, p3, p4⟩ := p
  unfold lawPut
  refine ⟨?_, stk_f _ (fun j hj => ?_) p2, ?_, fun c h1 h2 => ?_⟩
  · rw [gI_o _ _ (by decide), gI_o _ _ (by decide), gI_o _ _ (by decide)]; exact p1
  · rw [gI_o _ _ (by decide), gI_o _ _ (by decide), gI_o _ _ (by decide)]
  · rw [gI_at, show e + sh + 1 = e + 1 + sh from by omega]
  · unfold opP
    by_cases z : c = e
    · subst z
      rw [if_pos rfl]
      refine ⟨?_, fun _ => ?_⟩
      · rw [gI_o _ _ (by decide), gI_o _ _ (by decide)]; exact gI_at _ _ _ _
      · rw [gI_o _ _ (by decide)]; exact gI_at _ _ _ _
    · rw [if_neg z]
      have := p4 c h1 (by omega)
      refine ⟨?_, fun q => ?_⟩
      · rw [gI_o _ _ (by decide), gI_o _ _ (by decide), gI_k _ _ (by omega)]; exact this.1
      · rw [gI_o _ _ (by decide), gI_k _ _ (by omega), gI_o _ _ (by decide)]; exact this.2 q
theorem PM_emit {B c0 e k : Nat} {v : Int32} {op : Nat → Nat × Int32} {wl : List Nat} {h : hp} (p : PM B c0 op wl e h) : PM B c0 (opP op e k v) wl (e + 1) (emPut h (B + e) (nI k) v) := by
  obtain ⟨p1, p2, p3, p4⟩ := p
  unfold emPut
  refine ⟨?_, stk_f _ (fun j hj => ?_) p2, ?_, fun c h1 h2 => ?_⟩
  · rw [gI_k _ _ (by decide), gI_o _ _ (by decide), gI_o _ _ (by decide)]; exact p1
  · rw [gI_o _ _ (by decide), gI_o _ _ (by decide), gI_o _ _ (by decide)]
  · rw [gI_at, show B + e + 1 = B + (e + 1) from by omega]
  · unfold opP
    by_cases z : c = e
    · subst z
      rw [if_pos rfl]
      refine ⟨?_, fun _ => ?_⟩
      · rw [gI_o _ _ (by decide), gI_o _ _ (by decide)]; exact gI_at _ _ _ _
      · rw [gI_o _ _ (by decide)]; exact gI_at _ _ _ _
    · rw [if_neg z]
      have := p4 c h1 (by omega)
      refine ⟨?_, fun q => ?_⟩
      · rw [gI_o _ _ (by decide), gI_o _ _ (by decide), gI_k _ _ (by omega)]; exact this.1
      · rw [gI_o _ _ (by decide), gI_k _ _ (by omega), gI_o _ _ (by decide)]; exact this.2 q
theorem PC_drop {sh c0 e k : Nat} {op : Nat → Nat × Int32} {wl : List Nat} {h : hp} (p : PC sh c0 op (k :: wl) e h) : PC sh c0 op wl e (sI h 8 9 (nI wl.length)) := by
  obtain ⟨p1, p2, p3, p4⟩ := p
  refine ⟨gI_at _ _ _ _, stk_f _ (fun j hj => gI_o _ _ (by decide)) p2.2, by rw [gI_o _ _ (by decide)]; exact p3, fun c h1 h2 => ?_⟩
  have := p4 c h1 h2
  exact ⟨by rw [gI_o _ _ (by decide)]; exact this.1, fun q => by rw [gI_o _ _ (by decide)]; exact this.2 q⟩
theorem PM_drop {B c0 e k : Nat} {op : Nat → Nat × Int32} {wl : List Nat} {h : hp} (p : PM B c0 op (k :: wl) e h) : PM B c0 op wl e (sI h 0 47 (nI wl.length)) := by
  obtain ⟨p1, p2, p3, p4⟩ := p
  refine ⟨gI_at _ _ _ _, stk_f _ (fun j hj => gI_o _ _ (by decide)) p2.2, by rw [gI_k _ _ (by decide)]; exact p3, fun c h1 h2 => ?_⟩
  have := p4 c h1 h2
  exact ⟨by rw [gI_o _ _ (by decide)]; exact this.1, fun q => by rw [gI_o _ _ (by decide)]; exact this.2 q⟩
theorem PC_push {sh c0 e k : Nat} {op : Nat → Nat × Int32} {wl : List Nat} {h : hp} (p : PC sh c0 op wl e h) : PC sh c0 op (k :: wl) e (sI (sI h 14 wl.length (cK k)) 8 9 (nI (wl.length + 1))) := by
  obtain ⟨p1, p2, p3, p4⟩ := p
  refine ⟨gI_at _ _ _ _, ⟨?_, stk_f _ (fun j hj => ?_) p2⟩, by rw [gI_o _ _ (by decide), gI_o _ _ (by decide)]; exact p3, fun c h1 h2 => ?_⟩
  · rw [gI_o _ _ (by decide), List.length_map]; exact gI_at _ _ _ _
  · rw [List.length_map] at hj
    rw [gI_o _ _ (by decide), gI_k _ _ (by omega)]
  · have := p4 c h1 h2
    exact ⟨by rw [gI_o _ _ (by decide), gI_o _ _ (by decide)]; exact this.1, fun q => by rw [gI_o _ _ (by decide), gI_o _ _ (by decide)]; exact this.2 q⟩
theorem PM_push {B c0 e k : Nat} {op : Nat → Nat × Int32} {wl : List Nat} {h : hp} (p : PM B c0 op wl e h) : PM B c0 op (k :: wl) e (sI (sI h 31 wl.length (nI k)) 0 47 (nI (wl.length + 1))) := by
  obtain ⟨p1, p2, p3, p4⟩ := p
  refine ⟨gI_at _ _ _ _, ⟨?_, stk_f _ (fun j hj => ?_) p2⟩, by rw [gI_k _ _ (by decide), gI_o _ _ (by decide)]; exact p3, fun c h1 h2 => ?_⟩
  · rw [gI_o _ _ (by decide), List.length_map]; exact gI_at _ _ _ _
  · rw [List.length_map] at hj
    rw [gI_o _ _ (by decide), gI_k _ _ (by omega)]
  · have := p4 c h1 h2
    exact ⟨by rw [gI_o _ _ (by decide), gI_o _ _ (by decide)]; exact this.1, fun q => by rw [gI_o _ _ (by decide), gI_o _ _ (by decide)]; exact this.2 q⟩
/-! what waits comes out -/
def pC (lo : Nat) (a j : Nat) : Prop := (a = 8 ∧ j = 9) ∨ (a = 9 ∧ j = 2) ∨ ((a = 10 ∨ a = 11) ∧ lo ≤ j)
def pM (lo hi : Nat) (a j : Nat) : Prop := (a = 0 ∧ (j = 43 ∨ j = 47)) ∨ ((a = 29 ∨ a = 30) ∧ lo ≤ j ∧ j < hi)
theorem c_rank {k : Nat} {Q : Int32 → Prop} (hk : k ≤ 36) (hq : Q (nI (rkN k))) : w_X3_rankOf (cK k) Q := by
  have e10 : cK k = 42 ↔ k = 10 := cK_inj (b := 10) hk (by omega)
  have e15 : cK k = 47 ↔ k = 15 := cK_inj (b := 15) hk (by omega)
  have e8 : cK k = 43 ↔ k = 8 := cK_inj (b := 8) hk (by omega)
  have e9 : cK k = 45 ↔ k = 9 := cK_inj (b := 9) hk (by omega)
  unfold rkN at hq
  unfold w_X3_rankOf w_X3_rankOf_0
  rw [e10, e15, e8, e9]
  refine ⟨fun c => ?_, fun n10 => ⟨fun n15 => ⟨fun c => ?_, fun n8 => ⟨fun n9 => ?_, fun c => ?_⟩⟩, fun c => ?_⟩⟩
  · rw [if_pos (Or.inl c)] at hq; exact hq
  · rw [if_neg (by omega), if_pos (Or.inl c)] at hq; exact hq
  · rw [if_neg (by omega), if_neg (by omega)] at hq; exact hq
  · rw [if_neg (by omega), if_pos (Or.inr c)] at hq; exact hq
  · rw [if_pos (Or.inr c)] at hq; exact hq
/-- an op's kind of a token's kind -/
def opK (k : Nat) : Nat := if k = 8 then 2 else if k = 9 then 3 else if k = 10 then 4 else 5
theorem opK_c {k : Nat} (h : k = 8 ∨ k = 9 ∨ k = 10 ∨ k = 15) : cK k = opC (opK k) ∧ 2 ≤ opK k ∧ opK k ≤ 5 := by
  rcases h with q | q | q | q <;> subst q <;> decide
theorem m_out42 {k : Nat} {n m : Nat} {x1 : Int32} {Q : hp → Prop} {X : hp → Prop} {h : hp} (hk : k = 8 ∨ k = 9 ∨ k = 10 ∨ k = 15) (e : gI h 0 47 = nI (n + 1)) (hn : n ≤ 30) (e43 : gI h 0 43 = nI m) (hm : m < 840) (hq : X (emPut (sI h 0 47 (nI n)) m (nI (opK k)) 0)) : w_X12_comesOut_42 Q X x1 (nI k) h := by
  unfold w_X12_comesOut_42 w_X12_comesOut_84
  intro h7 e7
  rw [e, show (1 : Int32) = nI 1 from rfl, nI_sub (by omega) (by omega), Nat.add_sub_cancel] at e7
  subst e7
  have e43' : gI (sI h 0 47 (nI n)) 0 43 = nI m := by rw [gI_k _ _ (by decide)]; exact e43
  unfold opK at hq
  have i8 : nI k = 8 ↔ k = 8 := nI_eq (b := 8) (by omega) (by omega)
  have i9 : nI k = 9 ↔ k = 9 := nI_eq (b := 9) (by omega) (by omega)
  have i10 : nI k = 10 ↔ k = 10 := nI_eq (b := 10) (by omega) (by omega)
  rw [i8, i9, i10]
  refine ⟨fun n8 => ⟨fun n9 => ⟨fun n10 => m_emit e43' hm ?_, fun c => m_emit e43' hm ?_⟩, fun c => m_emit e43' hm ?_⟩, fun c => m_emit e43' hm ?_⟩
  · rw [if_neg n8, if_neg n9, if_neg n10] at hq; exact hq
  · rw [if_neg n8, if_neg n9, if_pos c] at hq; exact hq
  · rw [if_neg n8, if_pos c] at hq; exact hq
  · rw [if_pos c] at hq; exact hq
theorem nI_nle0 {n : Nat} (h : 1 ≤ n) (h2 : n < 2147483648) : ¬ nI n ≤ 0 := by
  rw [t_le, n_toInt h2, show (0 : Int32).toInt = 0 from rfl]; omega
theorem L_pop {sh B c0 r hi : Nat} (hr : r = 1 ∨ r = 2) (hhi : hi ≤ 840) : ∀ (wl : List Nat) (e : Nat) (op : Nat → Nat × Int32) (hc hm : hp), okWl wl → wl.length ≤ 21 → nS wl ≤ 19 → PC sh c0 op wl e hc → PM B c0 op wl e hm → wfD op c0 e (nS wl + 1) → e + sh + wl.length ≤ 401 → B + e + wl.length ≤ hi →
    ∃ (wl' : List Nat) (e' : Nat) (op' : Nat → Nat × Int32) (hc1 hm1 : hp), okWl wl' ∧ PC sh c0 op' wl' e' hc1 ∧ PM B c0 op' wl' e' hm1 ∧ wfD op' c0 e' (nS wl' + 1) ∧ e' + wl'.length = e + wl.length ∧ nP wl' = nP wl ∧ rkN (wl'.headD 6) < r ∧ wl'.length ≤ wl.length ∧ eqE (pC (c0 + sh)) hc hc1 ∧ eqE (pM (B + c0) hi) hm hm1 ∧
      (∀ (Q : hp → Prop) (X : hp → Prop), (∀ h, w_X3_writeWaiting_b0 Q (nI r) X h → X h) → Q hc1 → X hc) ∧ (∀ (Q : hp → Prop) (X : hp → Prop), (∀ h, w_X12_comesOut_b0 Q (nI (r - 1)) X h → X h) → Q hm1 → X hm) := by
  intro wl
  induction wl with
  | nil =>
    intro e op hc hm ok l21 s19 pc pm wf b1 b2
    refine ⟨[], e, op, hc, hm, ok, pc, pm, wf, rfl, rfl, ?_, Nat.le_refl _, eqE_refl _, eqE_refl _, fun Q X hX hq => hX _ ?_, fun Q X hX hq => hX _ ?_⟩
    · show rkN 6 < r
      rcases hr with q | q <;> subst q <;> decide
    · have e0 : gI hc 8 9 = 0 := pc.1
      unfold w_X3_writeWaiting_b0
      rw [e0]
      exact ⟨fun _ => hq, fun c => absurd (by decide) c⟩
    · have e0 : gI hm 0 47 = 0 := pm.1
      unfold w_X12_comesOut_b0
      rw [e0]
      exact ⟨fun _ => hq, fun c => absurd (by decide) c⟩
  | cons k wl ih =>
    intro e op hc hm ok l21 s19 pc pm wf b1 b2
    have l21 : wl.length + 1 ≤ 21 := l21
    have b1 : e + sh + (wl.length + 1) ≤ 401 := b1
    have b2 : B + e + (wl.length + 1) ≤ hi := b2
    have c1 : gI hc 8 9 = nI (wl.length + 1) := pc.1
    have m1 : gI hm 0 47 = nI (wl.length + 1) := pm.1
    have c2 : gI hc 14 wl.length = cK k := by have := pc.2.1.1; rw [List.length_map] at this; exact this
    have m2 : gI hm 31 wl.length = nI k := by have := pm.2.1.1; rw [List.length_map] at this; exact this
    have kin := wl_in ok rfl
    have k36 : k ≤ 36 := by omega
    have le0 : ¬ nI (wl.length + 1) ≤ 0 := nI_nle0 (by omega) (by omega)
    have s1 : nI (wl.length + 1) - 1 = nI wl.length := by rw [show (1 : Int32) = nI 1 from rfl, nI_sub (by omega) (by omega), Nat.add_sub_cancel]
    have i6 : nI k = 6 ↔ k = 6 := nI_eq (b := 6) (by omega) (by omega)
    have i8 : nI k = 8 ↔ k = 8 := nI_eq (b := 8) (by omega) (by omega)
    have i9 : nI k = 9 ↔ k = 9 := nI_eq (b := 9) (by omega) (by omega)
    have ir : nI (r - 1) = 0 ↔ r = 1 := by rw [show (0 : Int32) = nI 0 from rfl, nI_eq (by omega) (by omega)]; omega
    by_cases c : rkN k < r
    · refine ⟨k :: wl, e, op, hc, hm, ok, pc, pm, wf, rfl, rfl, c, Nat.le_refl _, eqE_refl _, eqE_refl _, fun Q X hX hq => hX _ ?_, fun Q X hX hq => hX _ ?_⟩
      · unfold w_X3_writeWaiting_b0
        rw [c1, s1, ix_n (n := wl.length) (by omega), c2]
        refine ⟨fun q => absurd q le0, fun _ => ⟨in_n (by omega) (by omega), c_rank k36 ⟨fun _ => hq, fun n => absurd (nI_lt c (by omega)) n⟩⟩⟩
      · unfold w_X12_comesOut_b0
        rw [m1, s1, ix_n (n := wl.length) (by omega), m2]
        refine ⟨fun q => absurd q le0, fun _ => ⟨in_n (by omega) (by omega), fun x ex => ?_⟩⟩
        subst ex
        rw [i6, i8, i9, ir]
        refine ⟨fun _ => hq, fun n6 => ⟨fun r1 => ?_, fun nr => ⟨fun _ => hq, fun n8 => ⟨fun n9 => ?_, fun _ => hq⟩⟩⟩⟩
        · exfalso; unfold rkN at c; split at c <;> (try split at c) <;> omega
        · exfalso; unfold rkN at c; split at c <;> (try split at c) <;> omega
    · have kop : k = 8 ∨ k = 9 ∨ k = 10 ∨ k = 15 := by
        rcases kin with q | q
        · subst q; exact absurd (by rcases hr with q | q <;> subst q <;> decide) c
        · exact q
      have oc := opK_c kop
      have ns : nS (k :: wl) = nS wl + 1 := by
        show (if k = 6 then 0 else 1) + nS wl = nS wl + 1
        rw [if_neg (by omega)]; omega
      have np : nP (k :: wl) = nP wl := by
        show (if k = 6 then 1 else 0) + nP wl = nP wl
        rw [if_neg (by omega)]; omega
      rw [ns] at wf
      have tot := wl_ps wl
      have wf' := wfD_emit (k := opK k) (v := 0) (d' := nS wl + 1) wf oc.2.2 (by omega) (by omega) (fun q => by omega) (fun _ => by omega) (fun q => by omega)
      have pc' := PC_drop (PC_emit (k := opK k) (v := 0) pc)
      have pm' := PM_emit (k := opK k) (v := 0) (PM_drop pm)
      obtain ⟨wl', e', op', hc1, hm1, f1, f2, f3, f4, f5, f6, f7, f8, f9, f10, f11, f12⟩ := ih (e + 1) (opP op e (opK k) 0) _ _ ok.1 (by omega) (by omega) pc' pm' wf' (by omega) (by omega)
      refine ⟨wl', e', op', hc1, hm1, f1, f2, f3, f4, by show e' + wl'.length = e + (wl.length + 1); omega, by rw [f6, np], f7, by show wl'.length ≤ wl.length + 1; omega, eqE_trans ?_ f9, eqE_trans ?_ f10, fun Q X hX hq => hX _ ?_, fun Q X hX hq => hX _ ?_⟩
      · have := wf.1
        unfold lawPut
        exact eqE_sI (eqE_sI (eqE_sI (eqE_sI (eqE_refl _) (by unfold pC; omega)) (by unfold pC; omega)) (by unfold pC; omega)) (by unfold pC; omega)
      · have := wf.1
        unfold emPut
        exact eqE_sI (eqE_sI (eqE_sI (eqE_sI (eqE_refl _) (by unfold pM; omega)) (by unfold pM; omega)) (by unfold pM; omega)) (by unfold pM; omega)
      · unfold w_X3_writeWaiting_b0
        rw [c1, s1, ix_n (n := wl.length) (by omega), c2]
        refine ⟨fun q => absurd q le0, fun _ => ⟨in_n (by omega) (by omega), c_rank k36 ⟨fun q => absurd q (nI_nlt (by omega) (by have := rkN_le k; omega)), fun _ => ⟨in_n (by omega) (by omega), c_lawAdd pc.2.2.1 (by omega) (fun h7 e7 => ?_)⟩⟩⟩⟩
        have g : gI (lawPut hc (e + sh) (cK k) 0) 8 9 = nI (wl.length + 1) := by
          unfold lawPut
          rw [gI_o _ _ (by decide), gI_o _ _ (by decide), gI_o _ _ (by decide)]; exact c1
        rw [g, s1, oc.1] at e7
        subst e7
        exact f11 Q X hX hq
      · unfold w_X12_comesOut_b0
        rw [m1, s1, ix_n (n := wl.length) (by omega), m2]
        refine ⟨fun q => absurd q le0, fun _ => ⟨in_n (by omega) (by omega), fun x ex => ?_⟩⟩
        subst ex
        have go : w_X12_comesOut_42 Q X (nI (r - 1)) (nI k) hm := m_out42 kop m1 (by omega) pm.2.2.1 (by omega) (f12 Q X hX hq)
        rw [i6, i8, i9]
        refine ⟨fun q => by omega, fun _ => ⟨fun _ => go, fun r0 => ⟨fun q => ?_, fun _ => ⟨fun _ => go, fun q => ?_⟩⟩⟩⟩
        · exfalso; rw [ir] at r0; subst q; exact c (by show 1 < r; omega)
        · exfalso; rw [ir] at r0; subst q; exact c (by show 1 < r; omega)
/-- the reference behind a fault lets come out what waits, whatever it is -/
theorem m_popF {x1 : Int32} {lo hi : Nat} (hhi : hi ≤ 840) : ∀ (n m : Nat) (h : hp), gI h 0 47 = nI n → gI h 0 43 = nI m → n ≤ 30 → lo ≤ m → m + n ≤ hi → ∃ h1, eqE (pM lo hi) h h1 ∧ ∀ (Q : hp → Prop) (X : hp → Prop), (∀ h, w_X12_comesOut_b0 Q x1 X h → X h) → Q h1 → X h := by
  intro n
  induction n with
  | zero =>
    intro m h e1 e2 _ _ _
    refine ⟨h, eqE_refl _, fun Q X hX hq => hX _ ?_⟩
    have e0 : gI h 0 47 = 0 := e1
    unfold w_X12_comesOut_b0
    rw [e0]
    exact ⟨fun _ => hq, fun c => absurd (by decide) c⟩
  | succ n ih =>
    intro m h e1 e2 h3 h4 h5
    have le0 : ¬ nI (n + 1) ≤ 0 := nI_nle0 (by omega) (by omega)
    have s1 : nI (n + 1) - 1 = nI n := by rw [show (1 : Int32) = nI 1 from rfl, nI_sub (by omega) (by omega), Nat.add_sub_cancel]
    by_cases stay : gI h 31 n = 6 ∨ (¬ x1 = 0 ∧ (gI h 31 n = 8 ∨ gI h 31 n = 9))
    · refine ⟨h, eqE_refl _, fun Q X hX hq => hX _ ?_⟩
      unfold w_X12_comesOut_b0
      rw [e1, s1, ix_n (n := n) (by omega)]
      refine ⟨fun q => absurd q le0, fun _ => ⟨in_n (by omega) (by omega), fun x ex => ?_⟩⟩
      subst ex
      refine ⟨fun _ => hq, fun n6 => ⟨fun z => ?_, fun nz => ⟨fun _ => hq, fun n8 => ⟨fun n9 => ?_, fun _ => hq⟩⟩⟩⟩
      · rcases stay with q | ⟨q, _⟩
        · exact absurd q n6
        · exact absurd z q
      · rcases stay with q | ⟨_, q | q⟩
        · exact absurd q n6
        · exact absurd q n8
        · exact absurd q n9
    · let k : Nat := if gI h 31 n = 8 then 2 else if gI h 31 n = 9 then 3 else if gI h 31 n = 10 then 4 else 5
      have g47 : gI (emPut (sI h 0 47 (nI n)) m (nI k) 0) 0 47 = nI n := by
        unfold emPut
        rw [gI_k _ _ (by decide), gI_o _ _ (by decide), gI_o _ _ (by decide)]; exact gI_at _ _ _ _
      obtain ⟨h1, x1', r1⟩ := ih (m + 1) (emPut (sI h 0 47 (nI n)) m (nI k) 0) g47 (gI_at _ _ _ _) (by omega) (by omega) (by omega)
      refine ⟨h1, eqE_trans ?_ x1', fun Q X hX hq => hX _ ?_⟩
      · unfold emPut
        exact eqE_sI (eqE_sI (eqE_sI (eqE_sI (eqE_refl _) (by unfold pM; omega)) (by unfold pM; omega)) (by unfold pM; omega)) (by unfold pM; omega)
      · have r1 := r1 Q X hX hq
        have e43' : gI (sI h 0 47 (nI n)) 0 43 = nI m := by rw [gI_k _ _ (by decide)]; exact e2
        have go : w_X12_comesOut_42 Q X x1 (gI h 31 n) h := by
          unfold w_X12_comesOut_42 w_X12_comesOut_84
          intro h7 e7
          rw [e1, s1] at e7
          subst e7
          refine ⟨fun n8 => ⟨fun n9 => ⟨fun n10 => m_emit e43' (by omega) ?_, fun c => m_emit e43' (by omega) ?_⟩, fun c => m_emit e43' (by omega) ?_⟩, fun c => m_emit e43' (by omega) ?_⟩
          · have : k = 5 := by show (if _ then _ else _) = 5; rw [if_neg n8, if_neg n9, if_neg n10]
            rw [this] at r1; exact r1
          · have : k = 4 := by show (if _ then _ else _) = 4; rw [if_neg n8, if_neg n9, if_pos c]
            rw [this] at r1; exact r1
          · have : k = 3 := by show (if _ then _ else _) = 3; rw [if_neg n8, if_pos c]
            rw [this] at r1; exact r1
          · have : k = 2 := by show (if _ then _ else _) = 2; rw [if_pos c]
            rw [this] at r1; exact r1
        unfold w_X12_comesOut_b0
        rw [e1, s1, ix_n (n := n) (by omega)]
        refine ⟨fun q => absurd q le0, fun _ => ⟨in_n (by omega) (by omega), fun x ex => ?_⟩⟩
        subst ex
        refine ⟨fun q => absurd (Or.inl q) stay, fun n6 => ⟨fun _ => go, fun nz => ⟨fun q => absurd (Or.inr ⟨nz, Or.inl q⟩) stay, fun n8 => ⟨fun _ => go, fun q => absurd (Or.inr ⟨nz, Or.inr q⟩) stay⟩⟩⟩⟩
/-! one E: both read it, token by token -/
def eCs (lo : Nat) (a j : Nat) : Prop := (a = 2 ∧ j < 3) ∨ (a = 8 ∧ (j = 2 ∨ j = 3 ∨ j = 6 ∨ j = 9)) ∨ a = 14 ∨ (a = 9 ∧ j = 2) ∨ ((a = 10 ∨ a = 11) ∧ lo ≤ j)
def eMs (lo hi : Nat) (a j : Nat) : Prop := (a = 0 ∧ (j = 11 ∨ j = 12 ∨ (13 ≤ j ∧ j ≤ 16) ∨ j = 43 ∨ j = 47)) ∨ a = 31 ∨ ((a = 29 ∨ a = 30) ∧ lo ≤ j ∧ j < hi)
theorem s2_e {lo : Nat} {h h1 : hp} (e : eqE s2 h h1) : eqE (eCs lo) h h1 := eqE_w (fun a j q => by unfold s2 at q; unfold eCs; omega) e
theorem sM_e {lo hi : Nat} {h h1 : hp} (e : eqE sM h h1) : eqE (eMs lo hi) h h1 := eqE_w (fun a j q => by unfold sM at q; unfold eMs; omega) e
theorem pC_e {lo : Nat} {h h1 : hp} (e : eqE (pC lo) h h1) : eqE (eCs lo) h h1 := eqE_w (fun a j q => by unfold pC at q; unfold eCs; omega) e
theorem pM_e {lo hi : Nat} {h h1 : hp} (e : eqE (pM lo hi) h h1) : eqE (eMs lo hi) h h1 := eqE_w (fun a j q => by unfold pM at q; unfold eMs; omega) e
def ES (T : Tb) (hc hm : hp) (t W : Nat) (Q : Int32) (x sh B BT c0 p : Nat) (wl : List Nat) (e d : Nat) (u : Int32) : Prop :=
  GS T hc hm t W Q ∧ (x ≤ t ∧ nP wl = p ∧ p ≤ 6 ∧ okWl wl ∧ e + sh + wl.length + 1 ≤ t ∧ B + e + wl.length ≤ BT + t) ∧ (gI hc 8 1 = 0 ∧ gI hc 8 2 = u ∧ gI hc 8 6 = nI p) ∧ gI hm 0 12 = nI p ∧ ∃ op, PC sh c0 op wl e hc ∧ PM B c0 op wl e hm ∧ wfD op c0 e d
def clsd20 (Q : Int32 → hp → Prop) (X : Int32 × hp → Prop) : Prop := ∀ q, w_X5_readLaw_b20 Q X q.1 q.2 → X q
def clsd12 (Q : hp → Prop) (X : Int32 × hp → Prop) : Prop := ∀ q, w_X12_expression_b12 Q 0 X q.1 q.2 → X q
def EBad (hc hm : hp) (x lo lm hi : Nat) (pt : (hp → Prop) → (Int32 × hp → Prop) → Prop) : Prop :=
  ∃ hc1 hm1, BS hc1 hm1 ∧ eqE (eCs lo) hc hc1 ∧ eqE (eMs lm hi) hm hm1 ∧ (∀ Q X, clsd20 Q X → Q 0 hc1 → X (nI x, hc)) ∧ (∀ Q X, clsd12 Q X → Q hm1 → pt Q X)
def EEnd (T : Tb) (hc hm : hp) (W : Nat) (Q0 : Int32) (x sh B BT c0 tm : Nat) (pt : (hp → Prop) → (Int32 × hp → Prop) → Prop) : Prop :=
  ∃ (hc1 hc2 hm1 : hp) (t1 x1 e1 : Nat) (op1 : Nat → Nat × Int32), GS T hc1 hm1 t1 W Q0 ∧ (rkN (tbK T t1) = 0 ∧ x1 ≤ t1 ∧ tm ≤ t1 ∧ e1 + sh + 1 ≤ t1 ∧ B + e1 ≤ BT + t1) ∧ (gI hc1 8 1 = 0 ∧ gI hc1 8 2 = 0 ∧ gI hc1 8 6 = 0 ∧ gI hc1 8 3 = 0) ∧ gI hm1 0 12 = 0 ∧ (PC sh c0 op1 [] e1 hc2 ∧ PM B c0 op1 [] e1 hm1 ∧ wfD op1 c0 e1 1) ∧ (eqE (eCs (c0 + sh)) hc hc1 ∧ eqE (pC (c0 + sh)) hc1 hc2 ∧ eqE (eMs (B + c0) (BT + 420)) hm hm1) ∧
    (∀ Q X, clsd20 Q X → X (nI x1, hc1) → X (nI x, hc)) ∧ (∀ Q : hp → Prop, Q hc2 → w_X3_writeWaiting hc1 1 Q) ∧ (∀ Q X, clsd12 Q X → Q hm1 → pt Q X)
theorem ext_bad {hc hm hc' hm' : hp} {x x' lo lm hi : Nat} {pt pt' : (hp → Prop) → (Int32 × hp → Prop) → Prop} (ec : eqE (eCs lo) hc hc') (em : eqE (eMs lm hi) hm hm') (rc : ∀ Q X, clsd20 Q X → X (nI x', hc') → X (nI x, hc)) (rm : ∀ Q X, clsd12 Q X → pt' Q X → pt Q X) (h : EBad hc' hm' x' lo lm hi pt') : EBad hc hm x lo lm hi pt := by
  obtain ⟨hc1, hm1, b, e1, e2, r1, r2⟩ := h
  exact ⟨hc1, hm1, b, eqE_trans ec e1, eqE_trans em e2, fun Q X cl hq => rc Q X cl (r1 Q X cl hq), fun Q X cl hq => rm Q X cl (r2 Q X cl hq)⟩
theorem ext_end {T : Tb} {hc hm hc' hm' : hp} {W : Nat} {Q0 : Int32} {x x' sh B BT c0 tm tm' : Nat} {pt pt' : (hp → Prop) → (Int32 × hp → Prop) → Prop} (ec : eqE (eCs (c0 + sh)) hc hc') (em : eqE (eMs (B + c0) (BT + 420)) hm hm') (ht : tm ≤ tm') (rc : ∀ Q X, clsd20 Q X → X (nI x', hc') → X (nI x, hc)) (rm : ∀ Q X, clsd12 Q X → pt' Q X → pt Q X) (h : EEnd T hc' hm' W Q0 x' sh B BT c0 tm' pt') : EEnd T hc hm W Q0 x sh B BT c0 tm pt := by
  obtain ⟨hc1, hc2, hm1, t1, x1, e1, op1, g, ⟨q1, q2, q3, q4, q5⟩, s, s', pp, ⟨f1, f2, f3⟩, r1, r2, r3⟩ := h
  exact ⟨hc1, hc2, hm1, t1, x1, e1, op1, g, ⟨q1, q2, by omega, q4, q5⟩, s, s', pp, ⟨eqE_trans ec f1, f2, eqE_trans em f3⟩, fun Q X cl hq => rc Q X cl (r1 Q X cl hq), r2, fun Q X cl hq => rm Q X cl (r3 Q X cl hq)⟩
/-! the class's steps -/
theorem c_enter1 {T : Tb} {hc hm : hp} {t W x : Nat} {Q0 : Int32} {Q : Int32 → hp → Prop} {X : Int32 × hp → Prop} (g : GS T hc hm t W Q0) (hx : x ≤ t) (h1 : gI hc 8 1 = 0) (h2 : gI hc 8 2 = 1) (cl : clsd20 Q X) (hq : ∀ v : Int64, (t < tbC T → v = tbV T t) → w_X3_unit hc (cK (tbK T t)) v.toInt32 (fun r17 h16 => w_X5_readLaw_78 Q X (nI x) h16 r17)) : X (nI x, hc) := by
  have t4 := g.1.2.2.2.1
  apply cl
  show w_X5_readLaw_b20 Q X (nI x) hc
  unfold w_X5_readLaw_b20
  refine ⟨fun q => absurd q (nI_nlt (a := 400) (b := x) (by omega) (by omega)), fun _ => ⟨fun q => absurd h1 q, fun _ => ⟨fun q => absurd (by rw [← h2, q]) (by decide : ¬ (1 : Int32) = 0), fun _ => kindH (GS_c g) (takenAny (k := 0) (GS_c g) (Nat.zero_le _) (fun v hv => hq v hv))⟩⟩⟩
theorem c_enter0 {T : Tb} {hc hm : hp} {t W x : Nat} {Q0 : Int32} {Q : Int32 → hp → Prop} {X : Int32 × hp → Prop} (g : GS T hc hm t W Q0) (hx : x ≤ t) (h1 : gI hc 8 1 = 0) (h2 : gI hc 8 2 = 0) (cl : clsd20 Q X) (hq : w_X3_behindUnit hc (cK (tbK T t)) (fun r11 h10 => w_X5_readLaw_78 Q X (nI x) h10 r11)) : X (nI x, hc) := by
  have t4 := g.1.2.2.2.1
  apply cl
  show w_X5_readLaw_b20 Q X (nI x) hc
  unfold w_X5_readLaw_b20
  exact ⟨fun q => absurd q (nI_nlt (a := 400) (b := x) (by omega) (by omega)), fun _ => ⟨fun q => absurd h1 q, fun _ => ⟨fun _ => kindH (GS_c g) hq, fun q => absurd h2 q⟩⟩⟩
theorem c_78stop {T : Tb} {hc hm : hp} {t W F : Nat} {x : Int32} {Q0 : Int32} {Q : Int32 → hp → Prop} {X : Int32 × hp → Prop} (g : GS T hc hm t W Q0) (hF : F = 1 ∨ F = 2) (hq : Q 0 (cSt T hc F t)) : w_X5_readLaw_78 Q X x hc (nI F) := by
  unfold w_X5_readLaw_78
  refine ⟨fun q => absurd q ?_, fun _ => stopH (GS_c g) ⟨isZ0, hq⟩⟩
  rcases hF with q | q <;> subst q <;> decide
theorem c_78go {T : Tb} {hc hm hc1 : hp} {t W x : Nat} {Q0 : Int32} {Q : Int32 → hp → Prop} {X : Int32 × hp → Prop} (g : GS T hc hm t W Q0) (rc : ∀ Q : Int32 → hp → Prop, Q 1 hc1 → w_X5_take hc (cK (tbK T t)) Q) (hq : X (nI (x + 1), hc1)) : w_X5_readLaw_78 Q X (nI x) hc 0 := by
  unfold w_X5_readLaw_78
  refine ⟨fun _ => kindH (GS_c g) (rc _ ⟨fun _ y ey => ?_, fun q => absurd q (by decide)⟩), fun q => absurd rfl q⟩
  rw [← nI_succ] at ey
  subst ey
  exact hq
theorem c_78bad {T : Tb} {hc hm hc1 : hp} {t W : Nat} {x : Int32} {Q0 : Int32} {Q : Int32 → hp → Prop} {X : Int32 × hp → Prop} (g : GS T hc hm t W Q0) (rc : ∀ Q : Int32 → hp → Prop, Q 0 hc1 → w_X5_take hc (cK (tbK T t)) Q) (hq : Q 0 hc1) : w_X5_readLaw_78 Q X x hc 0 := by
  unfold w_X5_readLaw_78
  exact ⟨fun _ => kindH (GS_c g) (rc _ ⟨fun q => absurd rfl q, fun _ => hq⟩), fun q => absurd rfl q⟩
def cU (h : hp) : hp := sI (sI h 8 3 0) 8 2 0
theorem c_unit {h : hp} {k : Nat} {x2 : Int32} {Q : Int32 → hp → Prop} (hk : k ≤ 36) (hb : gI h 8 3 = 0 ∨ ¬ k = 28) (q6 : k = 6 → w_X3_nestBegins (sI h 8 3 0) Q) (q2 : k = 2 → w_X2_add 9 (cU h) 1 x2 (fun _ h => Q 0 h)) (qv : ∀ i, i < 6 → k = 31 + i → w_X2_add 9 (cU h) 2 (nI i) (fun _ h => Q 0 h)) (qx : ¬ (k = 6 ∨ k = 2 ∨ 31 ≤ k) → Q 1 (cU h)) : w_X3_unit h (cK k) x2 Q := by
  have e28 : cK k = 264 ↔ k = 28 := cK_inj (b := 28) hk (by omega)
  have e6 : cK k = 40 ↔ k = 6 := cK_inj (b := 6) hk (by omega)
  have e2 : cK k = 3 ↔ k = 2 := cK_inj (b := 2) hk (by omega)
  have el : ∀ k, k < 37 → ((cK k < 267 ↔ k < 31) ∧ ¬ 272 < cK k ∧ (31 ≤ k → cK k - 267 = nI (k - 31))) := by decide +kernel
  have el := el k (by omega)
  have u19 : w_X3_unit_19 Q (cK k) x2 h 0 := by
    unfold w_X3_unit_19
    intro h3 e3
    subst e3
    refine ⟨fun _ => ⟨fun n6 h6 e6' => ?_, fun c => q6 (e6.mp c)⟩, fun q => absurd rfl q⟩
    subst e6'
    refine ⟨fun n2 => ⟨fun c => ?_, fun c => ⟨fun d => absurd d el.2.1, fun _ => ?_⟩⟩, fun c => q2 (e2.mp c)⟩
    · have c := el.1.mp c
      exact qx (fun q => by
        rcases q with q | q | q
        · exact n6 (e6.mpr q)
        · exact n2 (e2.mpr q)
        · omega)
    · have c : ¬ k < 31 := fun q => c (el.1.mpr q)
      rw [el.2.2 (by omega)]
      exact qv (k - 31) (by omega) (by omega)
  unfold w_X3_unit w_X3_unit_0
  rw [e28]
  refine ⟨fun _ => u19, fun c => ⟨fun _ => u19, fun n => ?_⟩⟩
  rcases hb with q | q
  · exact absurd q n
  · exact absurd c q
theorem c_letWait {h : hp} {n : Nat} {v : Int32} {Q : hp → Prop} (e : gI h 8 9 = nI n) (hn : n < 21) (hq : Q (sI (sI h 14 n v) 8 9 (nI (n + 1)))) : w_X3_letWait h v Q := by
  unfold w_X3_letWait w_X3_letWait_0
  rw [e]
  refine ⟨fun c => absurd c (nI_ge (a := n) (b := 21) hn (by omega)), fun _ => ⟨in_n hn (by omega), fun h2 e2 h3 e3 => ?_⟩⟩
  rw [ix_n (n := n) (by omega)] at e2
  subst e2
  rw [gI_o _ _ (by decide), e, ← nI_succ] at e3
  subst e3
  exact hq
theorem c_behOp {h : hp} {k : Nat} {Q : Int32 → hp → Prop} (hk : k ≤ 36) (hr : 1 ≤ rkN k) (hq : w_X3_writeWaiting h (nI (rkN k)) (fun h5 => w_X3_letWait h5 (cK k) (fun h6 => ∀ h7, h7 = sI h6 8 2 1 → Q 0 h7))) : w_X3_behindUnit h (cK k) Q := by
  have := rkN_le k
  unfold w_X3_behindUnit w_X3_behindUnit_0
  exact c_rank hk ⟨fun c => absurd c (nI_nle0 hr (by omega)), fun _ => hq⟩
theorem c_behEnd {h : hp} {k p : Nat} {Q : Int32 → hp → Prop} (hk : k ≤ 36) (hr : rkN k = 0) (e : gI h 8 6 = nI p) (hp0 : p ≤ 6) (q0 : p = 0 → w_X3_behindUnit_43 Q h (gI h 8 4) (cK k)) (q1 : 1 ≤ p → w_X3_behindUnit_43 Q h 41 (cK k)) : w_X3_behindUnit h (cK k) Q := by
  unfold w_X3_behindUnit w_X3_behindUnit_0
  refine c_rank hk ⟨fun _ => ⟨fun c => q0 ?_, fun c => q1 ?_⟩, fun c => absurd (by rw [hr]; decide) c⟩
  · rw [e, t_le, n_toInt (by omega), show (0 : Int32).toInt = 0 from rfl] at c; omega
  · rw [e, t_le, n_toInt (by omega), show (0 : Int32).toInt = 0 from rfl] at c; omega
/-! the reference's steps behind a fault -/
theorem FM_e {h h1 : hp} {F : Nat} {P : Int32} {lo hi : Nat} (e : eqE (pM lo hi) h h1) (g : FM h F P) : FM h1 F P := FM_f (agI_e e (fun a j q z => by unfold kFM at q; unfold pM at z; omega)) g
theorem m_unitF {h : hp} {F : Nat} {P : Int32} {Q : hp → Prop} (g : FM h F P) (hq : Q h) : w_X12_unit h Q := by
  unfold w_X12_unit w_X12_unit_0 w_X12_unit_88
  exact m_isF g ⟨fun _ => ⟨fun _ => m_fail1 g hq, fun q => absurd q (FM_ne g).1⟩, fun q => absurd rfl q⟩
theorem m_23F {h : hp} {F : Nat} {P x1 : Int32} {Q : hp → Prop} {X12 : Int32 × hp → Prop} {X23 : hp → Prop} (cl : ∀ q, w_X12_expression_b23 Q X12 x1 X23 q → X23 q) (g : FM h F P) (hq : Q h) : X23 h := by
  apply cl
  unfold w_X12_expression_b23
  exact m_isF g ⟨fun _ => m_unitF g ⟨fun c => absurd c (FM_ne g).2.1, fun _ => hq⟩, fun q => absurd rfl q⟩
theorem m_push23F {h : hp} {F n : Nat} {P x1 : Int32} (lo hi : Nat) (g : FM h F P) (e : gI h 0 47 = nI n) (hn : n ≤ 30) : ∃ hm1, FM hm1 F P ∧ eqE (eMs lo hi) h hm1 ∧ ∀ (Q : hp → Prop) (X12 : Int32 × hp → Prop) (X23 : hp → Prop), (∀ q, w_X12_expression_b23 Q X12 x1 X23 q → X23 q) → Q hm1 → (vp_in (gI h 0 47) 64 ∧ ∀ h14, h14 = sI h 31 (ix (gI h 0 47)) 6 → (∀ h15, h15 = sI h14 0 47 ((gI h14 0 47) + 1) → (X23 h15))) := by
  have g' : FM (sI (sI h 31 n 6) 0 47 (nI (n + 1))) F P := FM_f (agI_sI (agI_sI (agI_r _) (by unfold kFM; omega)) (by unfold kFM; omega)) g
  refine ⟨_, g', eqE_sI (eqE_sI (eqE_refl _) (by unfold eMs; omega)) (by unfold eMs; omega), fun Q X12 X23 cl hq => ?_⟩
  rw [e]
  refine ⟨in_n (by omega) (by omega), fun h14 e14 h15 e15 => ?_⟩
  rw [ix_n (n := n) (by omega)] at e14
  subst e14
  rw [gI_o _ _ (by decide), e, ← nI_succ] at e15
  subst e15
  exact m_23F cl g' hq
theorem m_46F {h : hp} {F n : Nat} {P x1 : Int32} (lo hi : Nat) (g : FM h F P) (e : gI h 0 47 = nI n) (hn : n ≤ 30) : ∃ hm1, FM hm1 F P ∧ eqE (eMs lo hi) h hm1 ∧ ∀ (Q : hp → Prop) (X12 : Int32 × hp → Prop) (X23 : hp → Prop), (∀ q, w_X12_expression_b23 Q X12 x1 X23 q → X23 q) → Q hm1 → w_X12_expression_46 Q X12 X23 x1 h := by
  have g1 : FM (sI h 0 12 (gI h 0 12 + 1)) F P := FM_f (agI_sI (agI_r _) (by unfold kFM; omega)) g
  obtain ⟨h2, e2, g2, r2⟩ := m_goesOnF g1
  have e' : gI h2 0 47 = nI n := by rw [eqE_I e2 (by unfold sM; omega), gI_k _ _ (by decide)]; exact e
  obtain ⟨h3, g3, e3, r3⟩ := m_push23F (x1 := x1) lo hi g2 e' hn
  refine ⟨h3, g3, eqE_trans (eqE_sI (eqE_refl _) (by unfold eMs; omega)) (eqE_trans (sM_e e2) e3), fun Q X12 X23 cl hq => ?_⟩
  unfold w_X12_expression_46
  intro h12 e12
  subst e12
  exact r2 _ (r3 Q X12 X23 cl hq)
theorem m_204F {h : hp} {F n m : Nat} {P : Int32} {lo hi : Nat} (hhi : hi ≤ 840) (g : FM h F P) (e : gI h 0 47 = nI n) (e2 : gI h 0 43 = nI m) (hn : n ≤ 30) (hlo : lo ≤ m) (hm : m + n ≤ hi) : ∃ hm1, FM hm1 F P ∧ eqE (eMs lo hi) h hm1 ∧ ∀ Q : hp → Prop, Q hm1 → w_X12_expression_204 Q h := by
  obtain ⟨h1, x1, r1⟩ := m_popF (x1 := 0) hhi n m h e e2 hn hlo hm
  exact ⟨h1, FM_e x1 g, pM_e x1, fun Q hq X hX => r1 Q X hX hq⟩
theorem m_145F {h : hp} {F : Nat} {P x1 : Int32} {Q : hp → Prop} {X12 : Int32 × hp → Prop} (g : FM h F P) (hq : w_X12_expression_204 Q h) : w_X12_expression_145 Q X12 x1 h := by
  unfold w_X12_expression_145
  refine m_isF g ⟨fun q => absurd rfl q, fun _ => m_isF g ⟨fun q => absurd rfl q, fun _ => m_isF g ⟨fun q => absurd rfl q, fun _ => m_isF g ⟨fun _ => ?_, fun q => absurd rfl q⟩⟩⟩⟩
  unfold w_X12_expression_186
  exact ⟨fun q => absurd rfl q, fun _ => ⟨fun _ => hq, fun _ => m_fail1 g hq⟩⟩
theorem m_96F {h : hp} {F n m : Nat} {P x1 : Int32} {lo hi : Nat} (hhi : hi ≤ 840) (g : FM h F P) (e : gI h 0 47 = nI n) (e2 : gI h 0 43 = nI m) (hn : n ≤ 30) (hlo : lo ≤ m) (hm : m + n ≤ hi) : ∃ hm1, FM hm1 F P ∧ eqE (eMs lo hi) h hm1 ∧ ∀ (Q : hp → Prop) (X12 : Int32 × hp → Prop) (X96 : hp → Prop), (∀ q, w_X12_expression_b96 Q X12 x1 X96 q → X96 q) → Q hm1 → X96 h := by
  obtain ⟨h1, g1, x1', r1⟩ := m_204F hhi g e e2 hn hlo hm
  refine ⟨h1, g1, x1', fun Q X12 X96 cl hq => cl _ ?_⟩
  unfold w_X12_expression_b96
  exact m_isF g ⟨fun _ => m_145F g (r1 Q hq), fun q => absurd rfl q⟩
theorem wl_top6 {wl : List Nat} (ok : okWl wl) (hr : rkN (wl.headD 6) < 1) (hp1 : 1 ≤ nP wl) : ∃ r, wl = 6 :: r ∧ okWl r := by
  cases wl with
  | nil => exact absurd hp1 (by decide)
  | cons k r =>
    have kin := wl_in ok rfl
    have hr : rkN k < 1 := hr
    rcases kin with q | q
    · subst q; exact ⟨r, rfl, ok.1⟩
    · rcases q with q | q | q | q <;> subst q <;> exact absurd hr (by decide)
theorem wl_nil {wl : List Nat} (ok : okWl wl) (hr : rkN (wl.headD 6) < 1) (hp0 : nP wl = 0) : wl = [] := by
  cases wl with
  | nil => rfl
  | cons k r =>
    have kin := wl_in ok rfl
    have hr : rkN k < 1 := hr
    rcases kin with q | q
    · subst q
      have : nP (6 :: r) = 1 + nP r := by show (if (6 : Nat) = 6 then 1 else 0) + nP r = _; rw [if_pos rfl]
      omega
    · rcases q with q | q | q | q <;> subst q <;> exact absurd hr (by decide)
theorem nS_14 {wl : List Nat} (ok : okWl wl) (hp0 : nP wl ≤ 6) : nS wl ≤ 14 := by
  have h1 := wl_len wl ok
  have h2 := wl_ps wl
  have h3 := rkN_le (wl.headD 6)
  omega
theorem gI_emPut {h : hp} {m : Nat} {k v : Int32} {a j : Nat} (n1 : ¬ (a = 29 ∨ a = 30)) (n2 : ¬ (a = 0 ∧ j = 43)) : gI (emPut h m k v) a j = gI h a j := by
  unfold emPut
  rw [gI_sI, if_neg (fun q => n2 ⟨q.1, q.2⟩), gI_o _ _ (fun q => n1 (Or.inr q)), gI_o _ _ (fun q => n1 (Or.inl q))]
theorem gI_lawPut {h : hp} {m : Nat} {k v : Int32} {a j : Nat} (n1 : ¬ (a = 10 ∨ a = 11)) (n2 : ¬ (a = 9 ∧ j = 2)) : gI (lawPut h m k v) a j = gI h a j := by
  unfold lawPut
  rw [gI_sI, if_neg (fun q => n2 ⟨q.1, q.2⟩), gI_o _ _ (fun q => n1 (Or.inr q)), gI_o _ _ (fun q => n1 (Or.inl q))]
theorem emPut_e {lo hi m : Nat} {h : hp} {k v : Int32} (h1 : lo ≤ m) (h2 : m < hi) : eqE (eMs lo hi) h (emPut h m k v) := eqE_sI (eqE_sI (eqE_sI (eqE_refl _) (by unfold eMs; omega)) (by unfold eMs; omega)) (by unfold eMs; omega)
theorem lawPut_e {lo m : Nat} {h : hp} {k v : Int32} (h1 : lo ≤ m) : eqE (eCs lo) h (lawPut h m k v) := eqE_sI (eqE_sI (eqE_sI (eqE_refl _) (by unfold eCs; omega)) (by unfold eCs; omega)) (by unfold eCs; omega)
theorem cU_e {lo : Nat} {h : hp} : eqE (eCs lo) h (cU h) := eqE_sI (eqE_sI (eqE_refl _) (by unfold eCs; omega)) (by unfold eCs; omega)
/-- a unit that is a number or a look -/
theorem L_val {T : Tb} {W : Nat} {Q0 : Int32} {sh B BT c0 n : Nat} (hBT : BT + 420 ≤ 840) (IH : ∀ (t : Nat) (hc hm : hp) (x p : Nat) (wl : List Nat) (e : Nat), 401 - t = n → ES T hc hm t W Q0 x sh B BT c0 p wl e (nS wl + 1) 0 → gI hc 8 3 = 0 → EBad hc hm x (c0 + sh) (B + c0) (BT + 420) (fun Q X => w_X12_expression_96 Q X 0 hm) ∨ EEnd T hc hm W Q0 x sh B BT c0 t (fun Q X => w_X12_expression_96 Q X 0 hm))
    {t : Nat} {hc hm : hp} {x p : Nat} {wl : List Nat} {e k : Nat} {v : Int32} (ht : 401 - t = n + 1) (es : ES T hc hm t W Q0 x sh B BT c0 p wl e (nS wl) 1) (hk : k < 2) (hv : k = 1 → 0 ≤ v.toInt ∧ v.toInt < 6) (hK : ¬ tbK T t = 0)
    (rc : ∀ Q X, clsd20 Q X → w_X5_readLaw_78 Q X (nI x) (lawPut (cU hc) (e + sh) (opC k) v) 0 → X (nI x, hc))
    (rm : ∀ Q X, w_X12_goesOn (emPut hm (B + e) (nI k) v) (fun h8 => ((gI h8 0 13) ≤ 0 → (w_X12_expression_96 Q X 0 h8)) ∧ (¬ ((gI h8 0 13) ≤ 0) → (Q h8))) → w_X12_expression_23 Q X 0 hm) :
    EBad hc hm x (c0 + sh) (B + c0) (BT + 420) (fun Q X => w_X12_expression_23 Q X 0 hm) ∨ EEnd T hc hm W Q0 x sh B BT c0 (t + 1) (fun Q X => w_X12_expression_23 Q X 0 hm) := by
  obtain ⟨g, ⟨b1, b2, b3, b4, b5, b6⟩, ⟨c1, c2, c3⟩, m1, op, pc, pm, wf⟩ := es
  have hx := wf.1
  have s14 := nS_14 b4 (by omega)
  have gU : GS T (lawPut (cU hc) (e + sh) (opC k) v) (emPut hm (B + e) (nI k) v) t W Q0 := GS_f (agI_sI (agI_sI (agI_sI (agI_sI (agI_sI (agI_r _) (by unfold kGC; omega)) (by unfold kGC; omega)) (by unfold kGC; omega)) (by unfold kGC; omega)) (by unfold kGC; omega)) (agI_sI (agI_sI (agI_sI (agI_r _) (by unfold kGM; omega)) (by unfold kGM; omega)) (by unfold kGM; omega)) g
  have pcU : PC sh c0 op wl e (cU hc) := PC_f (agI_sI (agI_sI (agI_r _) (by unfold kPC; omega)) (by unfold kPC; omega)) pc
  have fc : eqE (eCs (c0 + sh)) hc (lawPut (cU hc) (e + sh) (opC k) v) := eqE_trans cU_e (lawPut_e (by omega))
  have fm : eqE (eMs (B + c0) (BT + 420)) hm (emPut hm (B + e) (nI k) v) := emPut_e (by omega) (by have := g.1.2.2.2.1; omega)
  rcases L_next gU hK with ⟨hc1, hm1, e1, e2, g1, r1, r2⟩ | ⟨hc1, hm1, e1, e2, g1, r1, r2⟩
  · have k0 := GS_0 g1
    have es1 : ES T hc1 hm1 (t + 1) W Q0 (x + 1) sh B BT c0 p wl (e + 1) (nS wl + 1) 0 := by
      refine ⟨g1, ⟨by omega, b2, b3, b4, by omega, by omega⟩, ⟨?_, ?_, ?_⟩, ?_, opP op e k v, ?_, ?_, wfD_emit wf (by omega) (by omega) (by omega) (fun _ => rfl) (fun q => by omega) hv⟩
      · rw [eqE_I e1 (by unfold s2; omega), gI_lawPut (by omega) (by omega)]; unfold cU; rw [gI_k _ _ (by decide), gI_k _ _ (by decide)]; exact c1
      · rw [eqE_I e1 (by unfold s2; omega), gI_lawPut (by omega) (by omega)]; exact gI_at _ _ _ _
      · rw [eqE_I e1 (by unfold s2; omega), gI_lawPut (by omega) (by omega)]; unfold cU; rw [gI_k _ _ (by decide), gI_k _ _ (by decide)]; exact c3
      · rw [eqE_I e2 (by unfold sM; omega), gI_emPut (by omega) (by omega)]; exact m1
      · exact PC_f (agI_e e1 (fun a j q z => by unfold kPC at q; unfold s2 at z; omega)) (PC_emit pcU)
      · exact PM_f (agI_e e2 (fun a j q z => by unfold kPM at q; unfold sM at z; omega)) (PM_emit pm)
    have z3 : gI hc1 8 3 = 0 := by
      rw [eqE_I e1 (by unfold s2; omega), gI_lawPut (by omega) (by omega)]; unfold cU; rw [gI_k _ _ (by decide)]; exact gI_at _ _ _ _
    have rc' : ∀ Q X, clsd20 Q X → X (nI (x + 1), hc1) → X (nI x, hc) := fun Q X cl hq => rc Q X cl (c_78go gU r1 hq)
    have rm' : ∀ Q X, clsd12 Q X → w_X12_expression_96 Q X 0 hm1 → w_X12_expression_23 Q X 0 hm := fun Q X cl hq => rm Q X (r2 _ ⟨fun _ => hq, fun q => absurd k0.2.1 q⟩)
    rcases IH (t + 1) hc1 hm1 (x + 1) p wl (e + 1) (by omega) es1 z3 with r | r
    · exact Or.inl (ext_bad (eqE_trans fc (s2_e e1)) (eqE_trans fm (sM_e e2)) rc' rm' r)
    · exact Or.inr (ext_end (eqE_trans fc (s2_e e1)) (eqE_trans fm (sM_e e2)) (Nat.le_refl _) rc' rm' r)
  · obtain ⟨F, P, cf, fmm⟩ := g1
    refine Or.inl ⟨hc1, hm1, ⟨F, P, cf, fmm⟩, eqE_trans fc (s2_e e1), eqE_trans fm (sM_e e2), fun Q X cl hq => rc Q X cl (c_78bad gU r1 hq), fun Q X cl hq => rm Q X (r2 _ ⟨fun q => absurd q (FM_ne fmm).2.1, fun _ => hq⟩)⟩
/-- a unit that is a ( -/
theorem L_open {T : Tb} {W : Nat} {Q0 : Int32} {sh B BT c0 n : Nat} (hBT : BT + 420 ≤ 840) (IH : ∀ (t : Nat) (hc hm : hp) (x p : Nat) (wl : List Nat) (e : Nat), 401 - t = n → ES T hc hm t W Q0 x sh B BT c0 p wl e (nS wl) 1 → (gI hc 8 3 = 0 ∨ ¬ tbK T t = 28) → EBad hc hm x (c0 + sh) (B + c0) (BT + 420) (fun Q X => w_X12_expression_23 Q X 0 hm) ∨ EEnd T hc hm W Q0 x sh B BT c0 (t + 1) (fun Q X => w_X12_expression_23 Q X 0 hm))
    {t : Nat} {hc hm : hp} {x p : Nat} {wl : List Nat} {e : Nat} (ht : 401 - t = n + 1) (es : ES T hc hm t W Q0 x sh B BT c0 p wl e (nS wl) 1) (hK : tbK T t = 6) :
    EBad hc hm x (c0 + sh) (B + c0) (BT + 420) (fun Q X => w_X12_expression_23 Q X 0 hm) ∨ EEnd T hc hm W Q0 x sh B BT c0 (t + 1) (fun Q X => w_X12_expression_23 Q X 0 hm) := by
  obtain ⟨g, ⟨b1, b2, b3, b4, b5, b6⟩, ⟨c1, c2, c3⟩, m1, op, pc, pm, wf⟩ := es
  have hx := wf.1
  have t4 := g.1.2.2.2.1
  have l20 := wl_20 b4 (by omega)
  have c3' : gI (sI hc 8 3 0) 8 6 = nI p := by rw [gI_k _ _ (by decide)]; exact c3
  have e6 : nI p = 6 ↔ p = 6 := nI_eq (b := 6) (by omega) (by omega)
  -- into the class's nest
  have cIn : ∀ Q X, clsd20 Q X → w_X3_nestBegins (sI hc 8 3 0) (fun r17 h16 => w_X5_readLaw_78 Q X (nI x) h16 r17) → X (nI x, hc) := fun Q X cl hq => c_enter1 g b1 c1 c2 cl (fun v _ => by
    rw [hK]
    exact c_unit (by omega) (Or.inr (by omega)) (fun _ => hq) (fun q => by omega) (fun i hi q => by omega) (fun q => absurd (Or.inl rfl) q))
  have mIn : ∀ Q X X23, (∀ q, w_X12_expression_b23 Q X 0 X23 q → X23 q) → ((¬ p = 6 → w_X12_expression_46 Q X X23 0 hm) ∧ (p = 6 → w_X12_fail hm 2 (fun h11 => w_X12_expression_46 Q X X23 0 h11))) → X23 hm := fun Q X X23 cl hq => cl _ (by
    unfold w_X12_expression_b23
    refine isH (x := 6) (GS_m g) (by omega) (fun _ => ⟨fun q => absurd q (by decide), fun _ => ?_⟩) (fun q => absurd hK q)
    rw [m1, e6]
    exact hq)
  by_cases hp6 : p = 6
  · have e47 : gI (mSt T hm 2 t) 0 47 = nI wl.length := by unfold mSt; rw [gI_k _ _ (by decide), gI_k _ _ (by decide)]; exact pm.1
    obtain ⟨hm1, g1, x1, r1⟩ := m_46F (x1 := 0) (B + c0) (BT + 420) (FM_st (GS_m g) (by omega) (by omega : 2 ≤ 2)) e47 (by omega)
    have gN : GS T (sI hc 8 3 0) hm t W Q0 := GS_f (agI_sI (agI_r _) (by unfold kGC; omega)) (agI_r _) g
    refine Or.inl ⟨cSt T (sI hc 8 3 0) 2 t, hm1, ⟨2, _, CF_st, g1⟩, eqE_trans (eqE_sI (eqE_refl _) (by unfold eCs; omega)) (s2_e cSt_e), eqE_trans (sM_e mSt_e) x1, fun Q X cl hq => cIn Q X cl ?_, fun Q X cl hq X23 cl23 => mIn Q X X23 cl23 ⟨fun q => absurd hp6 q, fun _ => failH (F := 2) (GS_m g) (r1 Q X X23 cl23 hq)⟩⟩
    unfold w_X3_nestBegins w_X3_nestBegins_0
    rw [c3', e6]
    exact ⟨fun q => absurd hp6 q, fun _ => c_78stop (F := 2) gN (Or.inr rfl) hq⟩
  · let hcA := sI (sI (sI (sI hc 8 3 0) 8 6 (nI (p + 1))) 14 wl.length (cK 6)) 8 9 (nI (wl.length + 1))
    let hmA := sI hm 0 12 (nI (p + 1))
    have gA : GS T hcA hmA t W Q0 := GS_f (agI_sI (agI_sI (agI_sI (agI_sI (agI_r _) (by unfold kGC; omega)) (by unfold kGC; omega)) (by unfold kGC; omega)) (by unfold kGC; omega)) (agI_sI (agI_r _) (by unfold kGM; omega)) g
    have pcA : PC sh c0 op (6 :: wl) e hcA := PC_push (PC_f (agI_sI (agI_sI (agI_r _) (by unfold kPC; omega)) (by unfold kPC; omega)) pc)
    have fc : eqE (eCs (c0 + sh)) hc hcA := eqE_sI (eqE_sI (eqE_sI (eqE_sI (eqE_refl _) (by unfold eCs; omega)) (by unfold eCs; omega)) (by unfold eCs; omega)) (by unfold eCs; omega)
    have fm : eqE (eMs (B + c0) (BT + 420)) hm hmA := eqE_sI (eqE_refl _) (by unfold eMs; omega)
    have cN : ∀ Q X, clsd20 Q X → w_X5_readLaw_78 Q X (nI x) hcA 0 → X (nI x, hc) := fun Q X cl hq => cIn Q X cl (by
      unfold w_X3_nestBegins w_X3_nestBegins_0
      rw [c3', e6]
      refine ⟨fun _ h2 e2 => ?_, fun q => absurd q hp6⟩
      rw [← nI_succ] at e2
      subst e2
      exact c_letWait (n := wl.length) (by rw [gI_k _ _ (by decide), gI_k _ _ (by decide)]; exact pc.1) (by omega) hq)
    have mN : ∀ Q X X23, (∀ q, w_X12_expression_b23 Q X 0 X23 q → X23 q) → w_X12_goesOn hmA (fun h13 => vp_in (gI h13 0 47) 64 ∧ ∀ h14, h14 = sI h13 31 (ix (gI h13 0 47)) 6 → (∀ h15, h15 = sI h14 0 47 ((gI h14 0 47) + 1) → (X23 h15))) → X23 hm := fun Q X X23 cl hq => mIn Q X X23 cl ⟨fun _ => by
      unfold w_X12_expression_46
      intro h12 e12
      rw [m1, ← nI_succ] at e12
      subst e12
      exact hq, fun q => absurd q hp6⟩
    have e47A : gI hmA 0 47 = nI wl.length := by show gI (sI hm 0 12 _) 0 47 = _; rw [gI_k _ _ (by decide)]; exact pm.1
    have np6 : nP (6 :: wl) = nP wl + 1 := by show (if (6 : Nat) = 6 then 1 else 0) + nP wl = _; rw [if_pos rfl]; omega
    have ns6 : nS (6 :: wl) = nS wl := by show (if (6 : Nat) = 6 then 0 else 1) + nS wl = _; rw [if_pos rfl]; omega
    rcases L_next gA (by omega) with ⟨hc1, hm1, e1, e2, g1, r1, r2⟩ | ⟨hc1, hm1, e1, e2, g1, r1, r2⟩
    · have k0 := GS_0 g1
      have e47 : gI hm1 0 47 = nI wl.length := by rw [eqE_I e2 (by unfold sM; omega)]; exact e47A
      let hmB := sI (sI hm1 31 wl.length (nI 6)) 0 47 (nI (wl.length + 1))
      have gB : GS T hc1 hmB (t + 1) W Q0 := GS_f (agI_r _) (agI_sI (agI_sI (agI_r _) (by unfold kGM; omega)) (by unfold kGM; omega)) g1
      have pmB : PM B c0 op (6 :: wl) e hmB := PM_push (PM_f (agI_e e2 (fun a j q z => by unfold kPM at q; unfold sM at z; omega)) (PM_f (agI_sI (agI_r _) (by unfold kPM; omega)) pm))
      have es1 : ES T hc1 hmB (t + 1) W Q0 (x + 1) sh B BT c0 (p + 1) (6 :: wl) e (nS (6 :: wl)) 1 := by
        refine ⟨gB, ⟨by omega, by omega, by omega, ⟨b4, Or.inl rfl⟩, by show e + sh + (wl.length + 1) + 1 ≤ t + 1; omega, by show B + e + (wl.length + 1) ≤ BT + (t + 1); omega⟩, ⟨?_, ?_, ?_⟩, ?_, op, ?_, pmB, by rw [ns6]; exact wf⟩
        · rw [eqE_I e1 (by unfold s2; omega)]; show gI (sI (sI (sI (sI hc 8 3 0) 8 6 _) 14 _ _) 8 9 _) 8 1 = 0
          rw [gI_k _ _ (by decide), gI_o _ _ (by decide), gI_k _ _ (by decide), gI_k _ _ (by decide)]; exact c1
        · rw [eqE_I e1 (by unfold s2; omega)]; show gI (sI (sI (sI (sI hc 8 3 0) 8 6 _) 14 _ _) 8 9 _) 8 2 = 1
          rw [gI_k _ _ (by decide), gI_o _ _ (by decide), gI_k _ _ (by decide), gI_k _ _ (by decide)]; exact c2
        · rw [eqE_I e1 (by unfold s2; omega)]; show gI (sI (sI (sI (sI hc 8 3 0) 8 6 _) 14 _ _) 8 9 _) 8 6 = _
          rw [gI_k _ _ (by decide), gI_o _ _ (by decide)]; exact gI_at _ _ _ _
        · show gI (sI (sI hm1 31 _ _) 0 47 _) 0 12 = _
          rw [gI_k _ _ (by decide), gI_o _ _ (by decide), eqE_I e2 (by unfold sM; omega)]; exact gI_at _ _ _ _
        · exact PC_f (agI_e e1 (fun a j q z => by unfold kPC at q; unfold s2 at z; omega)) pcA
      have z3 : gI hc1 8 3 = 0 := by
        rw [eqE_I e1 (by unfold s2; omega)]; show gI (sI (sI (sI (sI hc 8 3 0) 8 6 _) 14 _ _) 8 9 _) 8 3 = 0
        rw [gI_k _ _ (by decide), gI_o _ _ (by decide), gI_k _ _ (by decide)]; exact gI_at _ _ _ _
      have rc' : ∀ Q X, clsd20 Q X → X (nI (x + 1), hc1) → X (nI x, hc) := fun Q X cl hq => cN Q X cl (c_78go gA r1 hq)
      have rm' : ∀ Q X, clsd12 Q X → w_X12_expression_23 Q X 0 hmB → w_X12_expression_23 Q X 0 hm := fun Q X cl hq X23 cl23 => mN Q X X23 cl23 (r2 _ (by
        rw [e47]
        refine ⟨in_n (by omega) (by omega), fun h14 e14 h15 e15 => ?_⟩
        rw [ix_n (n := wl.length) (by omega)] at e14
        subst e14
        rw [gI_o _ _ (by decide), e47, ← nI_succ] at e15
        subst e15
        exact hq X23 cl23))
      have fm' : eqE (eMs (B + c0) (BT + 420)) hm hmB := eqE_sI (eqE_sI (eqE_trans fm (sM_e e2)) (by unfold eMs; omega)) (by unfold eMs; omega)
      rcases IH (t + 1) hc1 hmB (x + 1) (p + 1) (6 :: wl) e (by omega) es1 (Or.inl z3) with r | r
      · exact Or.inl (ext_bad (eqE_trans fc (s2_e e1)) fm' rc' rm' r)
      · exact Or.inr (ext_end (eqE_trans fc (s2_e e1)) fm' (by omega) rc' rm' r)
    · obtain ⟨F, P, cf, fmm⟩ := g1
      have e47 : gI hm1 0 47 = nI wl.length := by rw [eqE_I e2 (by unfold sM; omega)]; exact e47A
      obtain ⟨hm2, g2, x2, r3⟩ := m_push23F (x1 := 0) (B + c0) (BT + 420) fmm e47 (by omega)
      exact Or.inl ⟨hc1, hm2, ⟨F, P, cf, g2⟩, eqE_trans fc (s2_e e1), eqE_trans fm (eqE_trans (sM_e e2) x2), fun Q X cl hq => cN Q X cl (c_78bad gA r1 hq), fun Q X cl hq X23 cl23 => mN Q X X23 cl23 (r2 _ (r3 Q X X23 cl23 hq))⟩
theorem opK_rk {k : Nat} (h : 1 ≤ rkN k) : k = 8 ∨ k = 9 ∨ k = 10 ∨ k = 15 := by
  unfold rkN at h
  split at h
  · omega
  · split at h <;> omega
/-- the reference behind a unit, at an op or none -/
theorem m_145 {T : Tb} {hm : hp} {t W : Nat} {Q0 : Int32} {Q : hp → Prop} {X12 : Int32 × hp → Prop} {x1 : Int32} (g : MH T hm t W Q0) (q2 : rkN (tbK T t) = 2 → w_X12_expression_234 Q X12 x1 1 hm 1) (q1 : rkN (tbK T t) = 1 → w_X12_expression_234 Q X12 x1 1 hm 0) (q0 : rkN (tbK T t) = 0 → w_X12_expression_186 Q X12 x1 hm 0) : w_X12_expression_145 Q X12 x1 hm := by
  have op1 : ¬ rkN (tbK T t) = 0 → w_X12_expression_186 Q X12 x1 hm 1 := fun n => by
    unfold w_X12_expression_186
    refine ⟨fun _ => isH (x := 10) g (by omega) (fun c => ⟨fun _ => q2 (by rw [c]; decide), fun q => absurd q (by decide)⟩) (fun n10 => ⟨fun q => absurd rfl q, fun _ => isH (x := 15) g (by omega) (fun c => ⟨fun q => absurd q (by decide), fun _ => q2 (by rw [c]; decide)⟩) (fun n15 => ⟨fun _ => q1 ?_, fun q => absurd rfl q⟩)⟩), fun q => absurd q (by decide)⟩
    have := opK_rk (k := tbK T t) (by omega)
    rcases this with q | q | q | q
    · rw [q]; decide
    · rw [q]; decide
    · exact absurd q n10
    · exact absurd q n15
  unfold w_X12_expression_145
  refine isH (x := 8) g (by omega) (fun c => ⟨fun _ => op1 (by rw [c]; decide), fun q => absurd q (by decide)⟩) (fun n8 => ⟨fun q => absurd rfl q, fun _ => isH (x := 9) g (by omega) (fun c => ⟨fun _ => op1 (by rw [c]; decide), fun q => absurd q (by decide)⟩) (fun n9 => ⟨fun q => absurd rfl q, fun _ => isH (x := 10) g (by omega) (fun c => ⟨fun _ => op1 (by rw [c]; decide), fun q => absurd q (by decide)⟩) (fun n10 => ⟨fun q => absurd rfl q, fun _ => isH (x := 15) g (by omega) (fun c => ⟨fun q => absurd q (by decide), fun _ => op1 (by rw [c]; decide)⟩) (fun n15 => ⟨fun _ => q0 ?_, fun q => absurd rfl q⟩)⟩)⟩)⟩)
  by_cases z : rkN (tbK T t) = 0
  · exact z
  · have := opK_rk (k := tbK T t) (by omega)
    omega
/-- behind a unit -/
theorem L_beh {T : Tb} {W : Nat} {Q0 : Int32} {sh B BT c0 n : Nat} (hBT : BT + 420 ≤ 840)
    (IHW : ∀ (t : Nat) (hc hm : hp) (x p : Nat) (wl : List Nat) (e : Nat), 401 - t = n → ES T hc hm t W Q0 x sh B BT c0 p wl e (nS wl) 1 → (gI hc 8 3 = 0 ∨ ¬ tbK T t = 28) → EBad hc hm x (c0 + sh) (B + c0) (BT + 420) (fun Q X => w_X12_expression_23 Q X 0 hm) ∨ EEnd T hc hm W Q0 x sh B BT c0 (t + 1) (fun Q X => w_X12_expression_23 Q X 0 hm))
    (IHB : ∀ (t : Nat) (hc hm : hp) (x p : Nat) (wl : List Nat) (e : Nat), 401 - t = n → ES T hc hm t W Q0 x sh B BT c0 p wl e (nS wl + 1) 0 → gI hc 8 3 = 0 → EBad hc hm x (c0 + sh) (B + c0) (BT + 420) (fun Q X => w_X12_expression_96 Q X 0 hm) ∨ EEnd T hc hm W Q0 x sh B BT c0 t (fun Q X => w_X12_expression_96 Q X 0 hm))
    {t : Nat} {hc hm : hp} {x p : Nat} {wl : List Nat} {e : Nat} (ht : 401 - t = n + 1) (es : ES T hc hm t W Q0 x sh B BT c0 p wl e (nS wl + 1) 0) (z3 : gI hc 8 3 = 0) :
    EBad hc hm x (c0 + sh) (B + c0) (BT + 420) (fun Q X => w_X12_expression_96 Q X 0 hm) ∨ EEnd T hc hm W Q0 x sh B BT c0 t (fun Q X => w_X12_expression_96 Q X 0 hm) := by
  obtain ⟨g, ⟨b1, b2, b3, b4, b5, b6⟩, ⟨c1, c2, c3⟩, m1, op, pc, pm, wf⟩ := es
  have hx := wf.1
  have t4 := g.1.2.2.2.1
  have k36 := g.1.1.2.1 t
  have l20 := wl_20 b4 (by omega)
  have s14 := nS_14 b4 (by omega)
  have hle : gI hm 0 12 ≤ 0 ↔ p = 0 := by
    rw [m1, t_le, n_toInt (by omega), show (0 : Int32).toInt = 0 from rfl]; omega
  -- the frames of a pop
  have gpop : ∀ {hc1 hm1 : hp}, eqE (pC (c0 + sh)) hc hc1 → eqE (pM (B + c0) (BT + 420)) hm hm1 → GS T hc1 hm1 t W Q0 := fun e1 e2 => GS_f (agI_e e1 (fun a j q z => by unfold kGC at q; unfold pC at z; omega)) (agI_e e2 (fun a j q z => by unfold kGM at q; unfold pM at z; omega)) g
  -- X96 at no op
  have m96 : ∀ Q X X96, (∀ q, w_X12_expression_b96 Q X 0 X96 q → X96 q) → (tbK T t = 7 → p = 0) → w_X12_expression_145 Q X 0 hm → X96 hm := fun Q X X96 cl h7 hq => cl _ (by
    unfold w_X12_expression_b96
    rw [hle]
    exact isH (x := 7) (GS_m g) (by omega) (fun c => ⟨fun q => absurd q (by decide), fun _ => ⟨fun _ => hq, fun q => absurd (h7 c) q⟩⟩) (fun c => ⟨fun _ => hq, fun q => absurd rfl q⟩))
  by_cases hr : 1 ≤ rkN (tbK T t)
  · have r2 := rkN_le (tbK T t)
    have kop := opK_rk hr
    obtain ⟨wl', e', op', hc1, hm1, f1, f2, f3, f4, f5, f6, f7, f8, f9, f10, f11, f12⟩ := L_pop (sh := sh) (B := B) (c0 := c0) (r := rkN (tbK T t)) (hi := BT + 420) (by omega) hBT wl e op hc hm b4 (by omega) (by omega) pc pm wf (by omega) (by omega)
    have g1 := gpop f9 f10
    have okp : okWl (tbK T t :: wl') := ⟨f1, Or.inr ⟨kop, f7⟩⟩
    have npk : nP (tbK T t :: wl') = nP wl' := by show (if tbK T t = 6 then 1 else 0) + nP wl' = _; rw [if_neg (by omega)]; omega
    have nsk : nS (tbK T t :: wl') = nS wl' + 1 := by show (if tbK T t = 6 then 0 else 1) + nS wl' = _; rw [if_neg (by omega)]; omega
    have l20' := wl_20 okp (by omega)
    have l20' : wl'.length + 1 ≤ 20 := l20'
    let hcA := sI (sI (sI hc1 14 wl'.length (cK (tbK T t))) 8 9 (nI (wl'.length + 1))) 8 2 1
    let hmA := sI (sI hm1 31 wl'.length (nI (tbK T t))) 0 47 (nI (wl'.length + 1))
    have gA : GS T hcA hmA t W Q0 := GS_f (agI_sI (agI_sI (agI_sI (agI_r _) (by unfold kGC; omega)) (by unfold kGC; omega)) (by unfold kGC; omega)) (agI_sI (agI_sI (agI_r _) (by unfold kGM; omega)) (by unfold kGM; omega)) g1
    have pcA : PC sh c0 op' (tbK T t :: wl') e' hcA := PC_f (agI_sI (agI_r _) (by unfold kPC; omega)) (PC_push f2)
    have pmA : PM B c0 op' (tbK T t :: wl') e' hmA := PM_push f3
    have fc : eqE (eCs (c0 + sh)) hc hcA := eqE_sI (eqE_sI (eqE_sI (pC_e f9) (by unfold eCs; omega)) (by unfold eCs; omega)) (by unfold eCs; omega)
    have fm : eqE (eMs (B + c0) (BT + 420)) hm hmA := eqE_sI (eqE_sI (pM_e f10) (by unfold eMs; omega)) (by unfold eMs; omega)
    have cN : ∀ Q X, clsd20 Q X → w_X5_readLaw_78 Q X (nI x) hcA 0 → X (nI x, hc) := fun Q X cl hq => c_enter0 g b1 c1 c2 cl (c_behOp k36 hr (fun Y hY => f11 _ Y hY (c_letWait (n := wl'.length) f2.1 (by omega) (fun h7 e7 => by subst e7; exact hq))))
    have m234 : ∀ (Q : hp → Prop) (X : Int32 × hp → Prop) (s : Int32), s = nI (rkN (tbK T t) - 1) → w_X12_goesOn hmA (fun h49 => X (1, h49)) → w_X12_expression_234 Q X 0 1 hm s := fun Q X s es' hq => by
      unfold w_X12_expression_234
      subst es'
      refine fun Y hY => f12 _ Y hY ?_
      have e11 : gI hm1 0 11 = nI t := g1.2.2.1
      have e3 : gI hm1 3 t = nI (tbK T t) := (g1.1.2.2.1 t t4 g1.1.2.2.2.2.1).1
      rw [e11, f3.1]
      refine ⟨in_n (by omega) (by omega), in_n (by omega) (by omega), fun h47 e47 h48 e48 => ?_⟩
      rw [ix_n (n := t) (by omega), ix_n (n := wl'.length) (by omega), e3] at e47
      subst e47
      rw [gI_o _ _ (by decide), f3.1, ← nI_succ] at e48
      subst e48
      exact hq
    have m96o : ∀ (Q : hp → Prop) (X : Int32 × hp → Prop) (X96 : hp → Prop), (∀ q, w_X12_expression_b96 Q X 0 X96 q → X96 q) → w_X12_goesOn hmA (fun h49 => X (1, h49)) → X96 hm := fun Q X X96 cl hq => m96 Q X X96 cl (fun q => by omega) (m_145 (GS_m g) (fun z => m234 Q X 1 (by rw [z]; rfl) hq) (fun z => m234 Q X 0 (by rw [z]; rfl) hq) (fun z => by omega))
    rcases L_next gA (by omega) with ⟨hc2, hm2, e1, e2, g2, r1, r2'⟩ | ⟨hc2, hm2, e1, e2, g2, r1, r2'⟩
    · have k0 := GS_0 g2
      have es1 : ES T hc2 hm2 (t + 1) W Q0 (x + 1) sh B BT c0 p (tbK T t :: wl') e' (nS (tbK T t :: wl')) 1 := by
        refine ⟨g2, ⟨by omega, by omega, b3, okp, by show e' + sh + (wl'.length + 1) + 1 ≤ t + 1; omega, by show B + e' + (wl'.length + 1) ≤ BT + (t + 1); omega⟩, ⟨?_, ?_, ?_⟩, ?_, op', ?_, ?_, by rw [nsk]; exact f4⟩
        · rw [eqE_I e1 (by unfold s2; omega)]; show gI (sI (sI (sI hc1 14 _ _) 8 9 _) 8 2 1) 8 1 = 0
          rw [gI_k _ _ (by decide), gI_k _ _ (by decide), gI_o _ _ (by decide), eqE_I f9 (by unfold pC; omega)]; exact c1
        · rw [eqE_I e1 (by unfold s2; omega)]; exact gI_at _ _ _ _
        · rw [eqE_I e1 (by unfold s2; omega)]; show gI (sI (sI (sI hc1 14 _ _) 8 9 _) 8 2 1) 8 6 = _
          rw [gI_k _ _ (by decide), gI_k _ _ (by decide), gI_o _ _ (by decide), eqE_I f9 (by unfold pC; omega)]; exact c3
        · rw [eqE_I e2 (by unfold sM; omega)]; show gI (sI (sI hm1 31 _ _) 0 47 _) 0 12 = _
          rw [gI_k _ _ (by decide), gI_o _ _ (by decide), eqE_I f10 (by unfold pM; omega)]; exact m1
        · exact PC_f (agI_e e1 (fun a j q z => by unfold kPC at q; unfold s2 at z; omega)) pcA
        · exact PM_f (agI_e e2 (fun a j q z => by unfold kPM at q; unfold sM at z; omega)) pmA
      have z3' : gI hc2 8 3 = 0 := by
        rw [eqE_I e1 (by unfold s2; omega)]; show gI (sI (sI (sI hc1 14 _ _) 8 9 _) 8 2 1) 8 3 = 0
        rw [gI_k _ _ (by decide), gI_k _ _ (by decide), gI_o _ _ (by decide), eqE_I f9 (by unfold pC; omega)]; exact z3
      have rc' : ∀ Q X, clsd20 Q X → X (nI (x + 1), hc2) → X (nI x, hc) := fun Q X cl hq => cN Q X cl (c_78go gA r1 hq)
      have rm' : ∀ Q X, clsd12 Q X → w_X12_expression_23 Q X 0 hm2 → w_X12_expression_96 Q X 0 hm := fun Q X cl hq X96 cl96 => m96o Q X X96 cl96 (r2' _ (cl _ ⟨fun q => absurd q (by decide : ¬ (1 : Int32) = 0), fun _ => ⟨fun q => absurd k0.1 q, fun _ => hq⟩⟩))
      rcases IHW (t + 1) hc2 hm2 (x + 1) p (tbK T t :: wl') e' (by omega) es1 (Or.inl z3') with r | r
      · exact Or.inl (ext_bad (eqE_trans fc (s2_e e1)) (eqE_trans fm (sM_e e2)) rc' rm' r)
      · exact Or.inr (ext_end (eqE_trans fc (s2_e e1)) (eqE_trans fm (sM_e e2)) (by omega) rc' rm' r)
    · obtain ⟨F, P, cf, fmm⟩ := g2
      exact Or.inl ⟨hc2, hm2, ⟨F, P, cf, fmm⟩, eqE_trans fc (s2_e e1), eqE_trans fm (sM_e e2), fun Q X cl hq => cN Q X cl (c_78bad gA r1 hq), fun Q X cl hq X96 cl96 => m96o Q X X96 cl96 (r2' _ (cl _ ⟨fun q => absurd q (by decide : ¬ (1 : Int32) = 0), fun _ => ⟨fun _ => hq, fun q => absurd q (FM_ne fmm).1⟩⟩))⟩
  · have r0 : rkN (tbK T t) = 0 := by omega
    have m0 : ∀ (Q : hp → Prop) (X : Int32 × hp → Prop), w_X12_expression_186 Q X 0 hm 0 → w_X12_expression_145 Q X 0 hm := fun Q X hq => m_145 (GS_m g) (fun z => by omega) (fun z => by omega) (fun _ => hq)
    by_cases hp0 : p = 0
    · -- the end
      obtain ⟨wl', e', op', hc1, hm1, f1, f2, f3, f4, f5, f6, f7, f8, f9, f10, f11, f12⟩ := L_pop (sh := sh) (B := B) (c0 := c0) (r := 1) (hi := BT + 420) (by omega) hBT wl e op hc hm b4 (by omega) (by omega) pc pm wf (by omega) (by omega)
      have en := wl_nil f1 f7 (by omega)
      subst en
      have f5 : e' + 0 = e + wl.length := f5
      refine Or.inr ⟨hc, hc1, hm1, t, x, e', op', GS_f (agI_r _) (agI_e f10 (fun a j q z => by unfold kGM at q; unfold pM at z; omega)) g, ⟨r0, b1, Nat.le_refl _, by omega, by omega⟩, ⟨c1, c2, by rw [c3, hp0]; rfl, z3⟩, ?_, ⟨f2, f3, f4⟩, ⟨eqE_refl _, f9, pM_e f10⟩, fun Q X cl hq => hq, fun Q hq Y hY => f11 Q Y hY hq, fun Q X cl hq X96 cl96 => m96 Q X X96 cl96 (fun _ => hp0) (m0 Q X ?_)⟩
      · rw [eqE_I f10 (by unfold pM; omega), m1, hp0]; rfl
      · unfold w_X12_expression_186
        exact ⟨fun q => absurd rfl q, fun _ => ⟨fun _ Y hY => f12 Q Y hY hq, fun q => absurd (hle.mpr hp0) q⟩⟩
    · by_cases h7 : tbK T t = 7
      · obtain ⟨wl', e', op', hc1, hm1, f1, f2, f3, f4, f5, f6, f7, f8, f9, f10, f11, f12⟩ := L_pop (sh := sh) (B := B) (c0 := c0) (r := 1) (hi := BT + 420) (by omega) hBT wl e op hc hm b4 (by omega) (by omega) pc pm wf (by omega) (by omega)
        obtain ⟨r, er, okr⟩ := wl_top6 f1 f7 (by omega)
        subst er
        have g1 := gpop f9 f10
        have npr : nP (6 :: r) = nP r + 1 := by show (if (6 : Nat) = 6 then 1 else 0) + nP r = _; rw [if_pos rfl]; omega
        have nsr : nS (6 :: r) = nS r := by show (if (6 : Nat) = 6 then 0 else 1) + nS r = _; rw [if_pos rfl]; omega
        have f5 : e' + (r.length + 1) = e + wl.length := f5
        have f8 : r.length + 1 ≤ wl.length := f8
        have w1 : gI hc1 8 9 = nI (r.length + 1) := f2.1
        have w2 : gI hm1 0 47 = nI (r.length + 1) := f3.1
        have sub1 : ∀ m : Nat, m < 1000 → nI (m + 1) - 1 = nI m := fun m hm => by rw [show (1 : Int32) = nI 1 from rfl, nI_sub (by omega) (by omega), Nat.add_sub_cancel]
        obtain ⟨p', ep⟩ : ∃ p', p = p' + 1 := ⟨p - 1, by omega⟩
        have c86 : gI hc1 8 6 = nI (p' + 1) := by rw [eqE_I f9 (by unfold pC; omega), c3, ep]
        have m12 : gI hm1 0 12 = nI (p' + 1) := by rw [eqE_I f10 (by unfold pM; omega), m1, ep]
        let hcA := sI (sI hc1 8 6 (nI p')) 8 9 (nI r.length)
        let hmA := sI (sI hm1 0 47 (nI r.length)) 0 12 (nI p')
        have gA : GS T hcA hmA t W Q0 := GS_f (agI_sI (agI_sI (agI_r _) (by unfold kGC; omega)) (by unfold kGC; omega)) (agI_sI (agI_sI (agI_r _) (by unfold kGM; omega)) (by unfold kGM; omega)) g1
        have pcA : PC sh c0 op' r e' hcA := PC_drop (PC_f (agI_sI (agI_r _) (by unfold kPC; omega)) f2)
        have pmA : PM B c0 op' r e' hmA := PM_f (agI_sI (agI_r _) (by unfold kPM; omega)) (PM_drop f3)
        have fc : eqE (eCs (c0 + sh)) hc hcA := eqE_sI (eqE_sI (pC_e f9) (by unfold eCs; omega)) (by unfold eCs; omega)
        have fm : eqE (eMs (B + c0) (BT + 420)) hm hmA := eqE_sI (eqE_sI (pM_e f10) (by unfold eMs; omega)) (by unfold eMs; omega)
        have cN : ∀ Q X, clsd20 Q X → w_X5_readLaw_78 Q X (nI x) hcA 0 → X (nI x, hc) := fun Q X cl hq => c_enter0 g b1 c1 c2 cl (c_behEnd k36 r0 c3 b3 (fun q => absurd q hp0) (fun _ => by
          unfold w_X3_behindUnit_43
          refine ⟨fun _ Y hY => f11 _ Y hY ⟨fun q => absurd q (by rw [c86]; exact nI_nle0 (by omega) (by omega)), fun _ => ?_⟩, fun q => absurd (by rw [h7]; rfl) q⟩
          unfold w_X3_nestEnds w_X3_nestEnds_0
          intro h1 e1
          rw [c86, sub1 p' (by omega)] at e1
          have w1' : gI h1 8 9 = nI (r.length + 1) := by rw [e1, gI_k _ _ (by decide)]; exact w1
          rw [w1']
          refine ⟨fun q => absurd q (nI_nle0 (by omega) (by omega)), fun _ h3 e3 => ?_⟩
          rw [sub1 r.length (by omega), e1] at e3
          subst e3
          exact hq))
        have mN : ∀ (Q : hp → Prop) (X : Int32 × hp → Prop) (X96 : hp → Prop), (∀ q, w_X12_expression_b96 Q X 0 X96 q → X96 q) → w_X12_goesOn hmA (fun h23 => X96 h23) → X96 hm := fun Q X X96 cl hq => cl _ (by
          unfold w_X12_expression_b96
          refine isH (x := 7) (GS_m g) (by omega) (fun _ => ⟨fun q => absurd q (by decide), fun _ => ⟨fun q => absurd (hle.mp q) hp0, fun _ Y hY => f12 _ Y hY (fun h21 e21 h22 e22 => ?_)⟩⟩) (fun c => absurd h7 c)
          rw [w2, sub1 r.length (by omega)] at e21
          subst e21
          rw [gI_k _ _ (by decide), m12, sub1 p' (by omega)] at e22
          subst e22
          exact hq)
        rcases L_next gA (by omega) with ⟨hc2, hm2, e1, e2, g2, r1, r2'⟩ | ⟨hc2, hm2, e1, e2, g2, r1, r2'⟩
        · have es1 : ES T hc2 hm2 (t + 1) W Q0 (x + 1) sh B BT c0 p' r e' (nS r + 1) 0 := by
            refine ⟨g2, ⟨by omega, by omega, by omega, okr, by omega, by omega⟩, ⟨?_, ?_, ?_⟩, ?_, op', ?_, ?_, by rw [← nsr]; exact f4⟩
            · rw [eqE_I e1 (by unfold s2; omega)]; show gI (sI (sI hc1 8 6 _) 8 9 _) 8 1 = 0
              rw [gI_k _ _ (by decide), gI_k _ _ (by decide), eqE_I f9 (by unfold pC; omega)]; exact c1
            · rw [eqE_I e1 (by unfold s2; omega)]; show gI (sI (sI hc1 8 6 _) 8 9 _) 8 2 = 0
              rw [gI_k _ _ (by decide), gI_k _ _ (by decide), eqE_I f9 (by unfold pC; omega)]; exact c2
            · rw [eqE_I e1 (by unfold s2; omega)]; show gI (sI (sI hc1 8 6 _) 8 9 _) 8 6 = _
              rw [gI_k _ _ (by decide)]; exact gI_at _ _ _ _
            · rw [eqE_I e2 (by unfold sM; omega)]; exact gI_at _ _ _ _
            · exact PC_f (agI_e e1 (fun a j q z => by unfold kPC at q; unfold s2 at z; omega)) pcA
            · exact PM_f (agI_e e2 (fun a j q z => by unfold kPM at q; unfold sM at z; omega)) pmA
          have z3' : gI hc2 8 3 = 0 := by
            rw [eqE_I e1 (by unfold s2; omega)]; show gI (sI (sI hc1 8 6 _) 8 9 _) 8 3 = 0
            rw [gI_k _ _ (by decide), gI_k _ _ (by decide), eqE_I f9 (by unfold pC; omega)]; exact z3
          have rc' : ∀ Q X, clsd20 Q X → X (nI (x + 1), hc2) → X (nI x, hc) := fun Q X cl hq => cN Q X cl (c_78go gA r1 hq)
          have rm' : ∀ Q X, clsd12 Q X → w_X12_expression_96 Q X 0 hm2 → w_X12_expression_96 Q X 0 hm := fun Q X cl hq X96 cl96 => mN Q X X96 cl96 (r2' _ (hq X96 cl96))
          rcases IHB (t + 1) hc2 hm2 (x + 1) p' r e' (by omega) es1 z3' with rr | rr
          · exact Or.inl (ext_bad (eqE_trans fc (s2_e e1)) (eqE_trans fm (sM_e e2)) rc' rm' rr)
          · exact Or.inr (ext_end (eqE_trans fc (s2_e e1)) (eqE_trans fm (sM_e e2)) (by omega) rc' rm' rr)
        · obtain ⟨F, P, cf, fmm⟩ := g2
          have q47 : gI hm2 0 47 = nI r.length := by rw [eqE_I e2 (by unfold sM; omega)]; exact pmA.1
          have q43 : gI hm2 0 43 = nI (B + e') := by rw [eqE_I e2 (by unfold sM; omega)]; exact pmA.2.2.1
          have := f4.1
          obtain ⟨hm3, g3, x3, r3⟩ := m_96F (x1 := 0) (lo := B + c0) (hi := BT + 420) (by omega) fmm q47 q43 (by omega) (by omega) (by omega)
          exact Or.inl ⟨hc2, hm3, ⟨F, P, cf, g3⟩, eqE_trans fc (s2_e e1), eqE_trans fm (eqE_trans (sM_e e2) x3), fun Q X cl hq => cN Q X cl (c_78bad gA r1 hq), fun Q X cl hq X96 cl96 => mN Q X X96 cl96 (r2' _ (r3 Q X X96 cl96 hq))⟩
      · -- neither an op nor a )
        have q47 : gI (mSt T hm 1 t) 0 47 = nI wl.length := by unfold mSt; rw [gI_k _ _ (by decide), gI_k _ _ (by decide)]; exact pm.1
        have q43 : gI (mSt T hm 1 t) 0 43 = nI (B + e) := by unfold mSt; rw [gI_k _ _ (by decide), gI_k _ _ (by decide)]; exact pm.2.2.1
        obtain ⟨hm3, g3, x3, r3⟩ := m_204F (lo := B + c0) (hi := BT + 420) (by omega) (FM_st (GS_m g) (by omega) (by omega : 1 ≤ 2)) q47 q43 (by omega) (by omega) (by omega)
        refine Or.inl ⟨cSt T hc 1 t, hm3, ⟨1, _, CF_st, g3⟩, s2_e cSt_e, eqE_trans (sM_e mSt_e) x3, fun Q X cl hq => c_enter0 g b1 c1 c2 cl (c_behEnd k36 r0 c3 b3 (fun q => absurd q hp0) (fun _ => ?_)), fun Q X cl hq X96 cl96 => m96 Q X X96 cl96 (fun q => absurd q h7) (m0 Q X ?_)⟩
        · unfold w_X3_behindUnit_43
          exact ⟨fun q => absurd ((cK_inj (b := 7) k36 (by omega)).mp q) h7, fun _ => c_78stop (F := 1) g (Or.inl rfl) hq⟩
        · unfold w_X12_expression_186
          exact ⟨fun q => absurd rfl q, fun _ => ⟨fun q => absurd (hle.mp q) hp0, fun _ => failH (F := 1) (GS_m g) (r3 Q hq)⟩⟩
/-- an E -/
theorem L_expr {T : Tb} {W : Nat} {Q0 : Int32} {sh B BT c0 : Nat} (hBT : BT + 420 ≤ 840) : ∀ (n : Nat),
    (∀ (t : Nat) (hc hm : hp) (x p : Nat) (wl : List Nat) (e : Nat), 401 - t = n → ES T hc hm t W Q0 x sh B BT c0 p wl e (nS wl) 1 → (gI hc 8 3 = 0 ∨ ¬ tbK T t = 28) → EBad hc hm x (c0 + sh) (B + c0) (BT + 420) (fun Q X => w_X12_expression_23 Q X 0 hm) ∨ EEnd T hc hm W Q0 x sh B BT c0 (t + 1) (fun Q X => w_X12_expression_23 Q X 0 hm)) ∧
    (∀ (t : Nat) (hc hm : hp) (x p : Nat) (wl : List Nat) (e : Nat), 401 - t = n → ES T hc hm t W Q0 x sh B BT c0 p wl e (nS wl + 1) 0 → gI hc 8 3 = 0 → EBad hc hm x (c0 + sh) (B + c0) (BT + 420) (fun Q X => w_X12_expression_96 Q X 0 hm) ∨ EEnd T hc hm W Q0 x sh B BT c0 t (fun Q X => w_X12_expression_96 Q X 0 hm)) := by
  intro n
  induction n with
  | zero => exact ⟨fun t hc hm x p wl e ht es _ => by have := es.1.1.2.2.2.1; omega, fun t hc hm x p wl e ht es _ => by have := es.1.1.2.2.2.1; omega⟩
  | succ n ih =>
    refine ⟨fun t hc hm x p wl e ht es hb => ?_, fun t hc hm x p wl e ht es z3 => L_beh hBT ih.1 ih.2 ht es z3⟩
    have es0 := es
    obtain ⟨g, ⟨b1, b2, b3, b4, b5, b6⟩, ⟨c1, c2, c3⟩, m1, op, pc, pm, wf⟩ := es
    have t4 := g.1.2.2.2.1
    have k36 := g.1.1.2.1 t
    have gm := GS_m g
    have e92 : gI (cU hc) 9 2 = nI (e + sh) := by unfold cU; rw [gI_o _ _ (by decide), gI_o _ _ (by decide)]; exact pc.2.2.1
    have e11 : gI hm 0 11 = nI t := g.2.2.1
    have e3 := g.1.2.2.1 t t4 g.1.2.2.2.2.1
    have m23 : ∀ (Q : hp → Prop) (X : Int32 × hp → Prop), ¬ tbK T t = 6 → w_X12_unit hm (fun h8 => ((gI h8 0 13) ≤ 0 → (w_X12_expression_96 Q X 0 h8)) ∧ (¬ ((gI h8 0 13) ≤ 0) → (Q h8))) → w_X12_expression_23 Q X 0 hm := fun Q X n6 hq X23 cl23 => cl23 _ (by
      unfold w_X12_expression_b23
      exact isH (x := 6) gm (by omega) (fun q => absurd q n6) (fun _ => ⟨fun _ => hq, fun q => absurd rfl q⟩))
    by_cases k6 : tbK T t = 6
    · exact L_open hBT ih.1 ht es0 k6
    by_cases k2 : tbK T t = 2
    · refine L_val (k := 0) (v := (tbV T t).toInt32) hBT ih.2 ht es0 (by omega) (fun q => by omega) (by omega) (fun Q X cl hq => c_enter1 g b1 c1 c2 cl (fun v hv => ?_)) (fun Q X hq => m23 Q X k6 ?_)
      · rw [hv (lt_tb g.1.1 (by omega))]
        exact c_unit k36 hb (fun q => absurd q k6) (fun _ => c_lawAdd e92 (by omega) hq) (fun i hi q => by omega) (fun q => absurd (Or.inr (Or.inl k2)) q)
      · unfold w_X12_unit w_X12_unit_0
        refine isH (x := 2) gm (by omega) (fun _ => ⟨fun q => absurd q (by decide), fun _ => ?_⟩) (fun q => absurd k2 q)
        rw [e11, ix_n (n := t) (by omega), e3.2.2.1 k2]
        exact ⟨in_n (by omega) (by omega), m_emit pm.2.2.1 (by omega) hq⟩
    by_cases k31 : 31 ≤ tbK T t
    · have iv : (nI (tbK T t - 31)).toInt = ((tbK T t - 31 : Nat) : Int) := n_toInt (by omega)
      refine L_val (k := 1) (v := nI (tbK T t - 31)) hBT ih.2 ht es0 (by omega) (fun _ => by rw [iv]; omega) (by omega) (fun Q X cl hq => c_enter1 g b1 c1 c2 cl (fun v _ => ?_)) (fun Q X hq => m23 Q X k6 ?_)
      · refine c_unit k36 hb (fun q => absurd q k6) (fun q => absurd q k2) (fun i hi q => ?_) (fun q => absurd (Or.inr (Or.inr k31)) q)
        rw [show i = tbK T t - 31 from by omega]
        exact c_lawAdd e92 (by omega) hq
      · unfold w_X12_unit w_X12_unit_0
        refine isH (x := 2) gm (by omega) (fun q => absurd q k2) (fun _ => ⟨fun _ => ⟨fun q => absurd gm.2.2.1 q, fun _ => ?_⟩, fun q => absurd rfl q⟩)
        rw [e11, ix_n (n := t) (by omega), e3.1]
        have i1 := in_n (k := t) (n := 403) (by omega) (by omega)
        refine ⟨i1, fun c => absurd c (nI_nlt (a := tbK T t) (b := 31) k31 (by omega)), fun _ => ⟨i1, fun c => absurd c (nI_nlt (a := 36) (b := tbK T t) k36 (by omega)), fun _ => ⟨i1, ?_⟩⟩⟩
        rw [show (31 : Int32) = nI 31 from rfl, nI_sub k31 (by omega)]
        exact m_emit pm.2.2.1 (by omega) hq
    · -- no unit
      have gU : GS T (cU hc) hm t W Q0 := GS_f (agI_sI (agI_sI (agI_r _) (by unfold kGC; omega)) (by unfold kGC; omega)) (agI_r _) g
      have fmm := FM_st (F := 1) gm (by omega) (by omega)
      refine Or.inl ⟨cSt T (cU hc) 1 t, mSt T hm 1 t, ⟨1, _, CF_st, fmm⟩, eqE_trans cU_e (s2_e cSt_e), sM_e mSt_e, fun Q X cl hq => c_enter1 g b1 c1 c2 cl (fun v _ => c_unit k36 hb (fun q => absurd q k6) (fun q => absurd q k2) (fun i hi q => by omega) (fun _ => c_78stop (F := 1) gU (Or.inl rfl) hq)), fun Q X cl hq => m23 Q X k6 ?_⟩
      unfold w_X12_unit w_X12_unit_0 w_X12_unit_88
      refine isH (x := 2) gm (by omega) (fun q => absurd q k2) (fun _ => ⟨fun _ => ⟨fun q => absurd gm.2.2.1 q, fun _ => ?_⟩, fun q => absurd rfl q⟩)
      rw [e11, ix_n (n := t) (by omega), e3.1]
      exact ⟨in_n (by omega) (by omega), fun _ => failH (F := 1) gm ⟨fun q => absurd q (FM_ne fmm).2.1, fun _ => hq⟩, fun c => absurd (nI_lt (a := tbK T t) (b := 31) (by omega) (by omega)) c⟩
/-! a law: both read it -/
def lCs (a j : Nat) : Prop := (a = 2 ∧ j < 3) ∨ a = 8 ∨ a = 9 ∨ a = 10 ∨ a = 11 ∨ a = 14
def lMs (f F1 B B1 : Nat) (a j : Nat) : Prop := (a = 0 ∧ (j = 11 ∨ j = 12 ∨ (13 ≤ j ∧ j ≤ 16) ∨ j = 37 ∨ j = 43 ∨ j = 47)) ∨ a = 31 ∨ ((24 ≤ a ∧ a ≤ 28) ∧ f ≤ j ∧ j < F1) ∨ ((a = 29 ∨ a = 30) ∧ B ≤ j ∧ j < B1)
theorem eCs_l {lo : Nat} {h h1 : hp} (e : eqE (eCs lo) h h1) : eqE lCs h h1 := eqE_w (fun a j q => by unfold eCs at q; unfold lCs; omega) e
theorem eMs_l {f F1 B B1 lo : Nat} {h h1 : hp} (hlo : B ≤ lo) (e : eqE (eMs lo B1) h h1) : eqE (lMs f F1 B B1) h h1 := eqE_w (fun a j q => by unfold eMs at q; unfold lMs; omega) e
theorem sM_l {f F1 B B1 : Nat} {h h1 : hp} (e : eqE sM h h1) : eqE (lMs f F1 B B1) h h1 := eqE_w (fun a j q => by unfold sM at q; unfold lMs; omega) e
theorem s2_l {h h1 : hp} (e : eqE s2 h h1) : eqE lCs h h1 := eqE_w (fun a j q => by unfold s2 at q; unfold lCs; omega) e
def clsdT (Q : hp → Prop) (x1 x2 : Int32) (X : Int32 × hp → Prop) : Prop := ∀ q, w_X12_tellLaw_b12 Q x1 x2 X q.1 q.2 → X q
theorem m_exprRun {h : hp} {Q : hp → Prop} (e13 : gI h 0 13 = 0) (e12 : gI h 0 12 = 0) (hq : ∀ X, clsd12 Q X → w_X12_expression_23 Q X 0 (sI h 0 47 0)) : w_X12_expression h Q := by
  unfold w_X12_expression w_X12_expression_0
  intro h1 e1 x ex
  subst e1
  rw [gI_k _ _ (by decide), e12] at ex
  subst ex
  intro X hX
  apply hX
  refine ⟨fun q => absurd q (by decide : ¬ (1 : Int32) = 0), fun _ => ⟨fun q => absurd (by show gI (sI h 0 47 0) 0 13 = 0; rw [gI_k _ _ (by decide)]; exact e13) q, fun _ => hq X hX⟩⟩
theorem m_exprF {h : hp} {F : Nat} {P : Int32} {Q : hp → Prop} (g : FM h F P) (hq : Q (sI h 0 47 0)) : w_X12_expression h Q := by
  have g1 : FM (sI h 0 47 0) F P := FM_f (agI_sI (agI_r _) (by unfold kFM; omega)) g
  unfold w_X12_expression w_X12_expression_0
  intro h1 e1 x ex
  subst e1
  intro X hX
  apply hX
  exact ⟨fun q => absurd q (by decide : ¬ (1 : Int32) = 0), fun _ => ⟨fun _ => hq, fun q => absurd q (FM_ne g1).1⟩⟩
theorem m_t24 {h : hp} {n m : Nat} {Q : hp → Prop} (e : gI h 0 37 = nI n) (hn : n < 260) (e2 : gI h 0 43 = nI m) (hq : Q (sI (sI h 28 n (nI m)) 0 37 (nI (n + 1)))) : w_X12_term_24 Q h := by
  unfold w_X12_term_24
  rw [e, e2]
  refine ⟨in_n hn (by omega), fun h4 e4 h5 e5 => ?_⟩
  rw [ix_n (n := n) (by omega)] at e4
  subst e4
  rw [gI_o _ _ (by decide), e, ← nI_succ] at e5
  subst e5
  exact hq
theorem m_t24F {h : hp} {F n : Nat} {P : Int32} {f F1 B B1 : Nat} (g : FM h F P) (e : gI h 0 37 = nI n) (hf : f ≤ n) (hn : n < F1) (hF : F1 ≤ 260) : ∃ h1, FM h1 F P ∧ gI h1 0 37 = nI (n + 1) ∧ eqE (lMs f F1 B B1) h h1 ∧ ∀ Q : hp → Prop, Q h1 → w_X12_term_24 Q h := by
  refine ⟨sI (sI h 28 n (gI h 0 43)) 0 37 (nI (n + 1)), FM_f (agI_sI (agI_sI (agI_r _) (by unfold kFM; omega)) (by unfold kFM; omega)) g, gI_at _ _ _ _, eqE_sI (eqE_sI (eqE_refl _) (by unfold lMs; omega)) (by unfold lMs; omega), fun Q hq => ?_⟩
  unfold w_X12_term_24
  rw [e]
  refine ⟨in_n (by omega) (by omega), fun h4 e4 h5 e5 => ?_⟩
  rw [ix_n (n := n) (by omega)] at e4
  subst e4
  rw [gI_o _ _ (by decide), e, ← nI_succ] at e5
  subst e5
  exact hq
theorem m_termF {h : hp} {F n : Nat} {P : Int32} {f F1 B B1 : Nat} (g : FM h F P) (e : gI h 0 37 = nI n) (hf : f ≤ n) (hn : n < F1) (hF : F1 ≤ 260) : ∃ h1, FM h1 F P ∧ gI h1 0 37 = nI (n + 1) ∧ eqE (lMs f F1 B B1) h h1 ∧ ∀ Q : hp → Prop, Q h1 → w_X12_term h Q := by
  have g1 : FM (sI h 27 n (gI h 0 43)) F P := FM_f (agI_sI (agI_r _) (by unfold kFM; omega)) g
  have e1 : gI (sI h 27 n (gI h 0 43)) 0 37 = nI n := by rw [gI_o _ _ (by decide)]; exact e
  obtain ⟨h2, a1, a2, a3, a4⟩ := m_t24F (f := f) (F1 := F1) (B := B) (B1 := B1) g1 e1 hf hn hF
  refine ⟨h2, a1, a2, eqE_trans (eqE_sI (eqE_refl _) (by unfold lMs; omega)) a3, fun Q hq => ?_⟩
  unfold w_X12_term w_X12_term_0
  rw [e]
  refine ⟨in_n (by omega) (by omega), fun h1 e1 => ?_⟩
  rw [ix_n (n := n) (by omega)] at e1
  subst e1
  exact ⟨fun _ => a4 Q hq, fun q => absurd q (FM_ne g1).1⟩
theorem m_129bF {h : hp} {F : Nat} {P x1 x2 : Int32} {Q : hp → Prop} (g : FM h F P) (hq : Q h) : w_X12_must h 4 (fun h24 => ((gI h24 0 13) ≤ 0 → (vp_in ((2 * (gI h24 0 19)) + x1) 4 ∧ ∀ h26, h26 = sI h24 22 (ix ((2 * (gI h24 0 19)) + x1)) x2 → (vp_in ((2 * (gI h26 0 19)) + x1) 4 ∧ ∀ h27, h27 = sI h26 23 (ix ((2 * (gI h26 0 19)) + x1)) (gI h26 0 37) → (Q h27)))) ∧ (¬ ((gI h24 0 13) ≤ 0) → (Q h24))) :=
  m_mustF g ⟨fun q => absurd q (FM_ne g).2.1, fun _ => hq⟩
theorem m_129F {h : hp} {F n : Nat} {P x1 x2 : Int32} {f F1 B B1 : Nat} (g : FM h F P) (e : gI h 0 37 = nI n) (hf : f ≤ n) (hn : n < F1) (hF : F1 ≤ 260) : ∃ h1, FM h1 F P ∧ eqE (lMs f F1 B B1) h h1 ∧ ∀ Q : hp → Prop, Q h1 → w_X12_tellLaw_129 Q x1 x2 h := by
  have g1 : FM (sI h 24 n (jz 0)) F P := FM_f (agI_sI (agI_r _) (by unfold kFM; omega)) g
  have e1 : gI (sI h 24 n (jz 0)) 0 37 = nI n := by rw [gI_o _ _ (by decide)]; exact e
  obtain ⟨h2, a1, a2, a3, a4⟩ := m_termF (f := f) (F1 := F1) (B := B) (B1 := B1) g1 e1 hf hn hF
  refine ⟨h2, a1, eqE_trans (eqE_sI (eqE_refl _) (by unfold lMs; omega)) a3, fun Q hq => ?_⟩
  unfold w_X12_tellLaw_129
  rw [e]
  refine ⟨in_n (by omega) (by omega), fun h22 e22 => ?_⟩
  rw [ix_n (n := n) (by omega)] at e22
  subst e22
  exact a4 _ (m_129bF a1 hq)
theorem m_XTF {h : hp} {F n : Nat} {P x1 x2 x3 : Int32} {f F1 B B1 : Nat} (g : FM h F P) (e : gI h 0 37 = nI n) (hf : f ≤ n) (hn : n < F1) (hF : F1 ≤ 260) : ∃ h1, FM h1 F P ∧ eqE (lMs f F1 B B1) h h1 ∧ ∀ (Q : hp → Prop) (X : Int32 × hp → Prop), clsdT Q x1 x2 X → Q h1 → X (x3, h) := by
  obtain ⟨h2, a1, a3, a4⟩ := m_129F (x1 := x1) (x2 := x2) (f := f) (F1 := F1) (B := B) (B1 := B1) g e hf hn hF
  refine ⟨h2, a1, a3, fun Q X cl hq => cl _ ?_⟩
  exact ⟨fun _ => a4 Q hq, fun q => absurd q (FM_ne g).1⟩
/-- behind then -/
theorem m_110bF {h : hp} {F n : Nat} {P x1 x2 x3 : Int32} {f F1 B B1 : Nat} (g : FM h F P) (e : gI h 0 37 = nI n) (hf : f ≤ n) (hn : n + 1 < F1) (hF : F1 ≤ 260) : ∃ h1, FM h1 F P ∧ eqE (lMs f F1 B B1) h h1 ∧ ∀ (Q : hp → Prop) (X : Int32 × hp → Prop), clsdT Q x1 x2 X → Q h1 → w_X12_term h (fun h20 => w_X12_must h20 30 (fun h21 => X (x3, h21))) := by
  obtain ⟨h2, a1, a2, a3, a4⟩ := m_termF (f := f) (F1 := F1) (B := B) (B1 := B1) g e hf (by omega) hF
  obtain ⟨h3, b1, b3, b4⟩ := m_XTF (x1 := x1) (x2 := x2) (x3 := x3) (f := f) (F1 := F1) (B := B) (B1 := B1) a1 a2 (by omega) hn hF
  exact ⟨h3, b1, eqE_trans a3 b3, fun Q X cl hq => a4 _ (m_mustF a1 (b4 Q X cl hq))⟩
theorem m_110F {h : hp} {F n : Nat} {P x1 x2 x3 : Int32} {f F1 B B1 : Nat} (g : FM h F P) (e : gI h 0 37 = nI n) (hf : f ≤ n) (hn : n + 1 < F1) (hF : F1 ≤ 260) : ∃ h1, FM h1 F P ∧ eqE (lMs f F1 B B1) h h1 ∧ ∀ (Q : hp → Prop) (X : Int32 × hp → Prop), clsdT Q x1 x2 X → Q h1 → w_X12_tellLaw_110 Q X x1 x2 x3 h := by
  obtain ⟨h3, b1, b3, b4⟩ := m_110bF (x1 := x1) (x2 := x2) (x3 := x3) (f := f) (F1 := F1) (B := B) (B1 := B1) g e hf hn hF
  exact ⟨h3, b1, b3, fun Q X cl hq => m_mustF g (b4 Q X cl hq)⟩
/-- behind the test's first E and its < -/
theorem m_26F {h : hp} {F n : Nat} {P x1 x2 x3 : Int32} {f F1 B B1 : Nat} (g : FM h F P) (e : gI h 0 37 = nI n) (hf : f ≤ n) (hn : n + 1 < F1) (hF : F1 ≤ 260) : ∃ h1, FM h1 F P ∧ eqE (lMs f F1 B B1) h h1 ∧ ∀ (Q : hp → Prop) (X : Int32 × hp → Prop), clsdT Q x1 x2 X → Q h1 → (vp_in (gI h 0 37) 260 ∧ ∀ h16, h16 = sI h 26 (ix (gI h 0 37)) (gI h 0 43) → ((¬ (gI h16 0 13) = 0 → (w_X12_tellLaw_110 Q X x1 x2 x3 h16)) ∧ ((gI h16 0 13) = 0 → (w_X12_expression h16 (fun h18 => w_X12_tellLaw_110 Q X x1 x2 x3 h18))))) := by
  have g1 : FM (sI h 26 n (gI h 0 43)) F P := FM_f (agI_sI (agI_r _) (by unfold kFM; omega)) g
  have e1 : gI (sI h 26 n (gI h 0 43)) 0 37 = nI n := by rw [gI_o _ _ (by decide)]; exact e
  obtain ⟨h3, b1, b3, b4⟩ := m_110F (x1 := x1) (x2 := x2) (x3 := x3) (f := f) (F1 := F1) (B := B) (B1 := B1) g1 e1 hf hn hF
  refine ⟨h3, b1, eqE_trans (eqE_sI (eqE_refl _) (by unfold lMs; omega)) b3, fun Q X cl hq => ?_⟩
  rw [e]
  refine ⟨in_n (by omega) (by omega), fun h16 e16 => ?_⟩
  rw [ix_n (n := n) (by omega)] at e16
  subst e16
  exact ⟨fun _ => b4 Q X cl hq, fun q => absurd q (FM_ne g1).1⟩
/-- behind the if -/
theorem m_38F {h : hp} {F n : Nat} {P x1 x2 x3 : Int32} {f F1 B B1 : Nat} (g : FM h F P) (e : gI h 0 37 = nI n) (hf : f ≤ n) (hn : n + 1 < F1) (hF : F1 ≤ 260) : ∃ h1, FM h1 F P ∧ eqE (lMs f F1 B B1) h h1 ∧ ∀ (Q : hp → Prop) (X : Int32 × hp → Prop), clsdT Q x1 x2 X → Q h1 → (vp_in (gI h 0 37) 260 ∧ ∀ h12, h12 = sI h 24 (ix (gI h 0 37)) (jz 1) → (vp_in (gI h12 0 37) 260 ∧ ∀ h13, h13 = sI h12 25 (ix (gI h12 0 37)) (gI h12 0 43) → (w_X12_expression h13 (fun h14 => w_X12_must h14 13 (fun h15 => vp_in (gI h15 0 37) 260 ∧ ∀ h16, h16 = sI h15 26 (ix (gI h15 0 37)) (gI h15 0 43) → ((¬ (gI h16 0 13) = 0 → (w_X12_tellLaw_110 Q X x1 x2 x3 h16)) ∧ ((gI h16 0 13) = 0 → (w_X12_expression h16 (fun h18 => w_X12_tellLaw_110 Q X x1 x2 x3 h18))))))))) := by
  let hA := sI (sI (sI h 24 n (jz 1)) 25 n (gI h 0 43)) 0 47 0
  have g0 : FM (sI (sI h 24 n (jz 1)) 25 n (gI h 0 43)) F P := FM_f (agI_sI (agI_sI (agI_r _) (by unfold kFM; omega)) (by unfold kFM; omega)) g
  have g1 : FM hA F P := FM_f (agI_sI (agI_r _) (by unfold kFM; omega)) g0
  have e1 : gI hA 0 37 = nI n := by show gI (sI (sI (sI h 24 n _) 25 n _) 0 47 0) 0 37 = _; rw [gI_k _ _ (by decide), gI_o _ _ (by decide), gI_o _ _ (by decide)]; exact e
  obtain ⟨h3, b1, b3, b4⟩ := m_26F (x1 := x1) (x2 := x2) (x3 := x3) (f := f) (F1 := F1) (B := B) (B1 := B1) g1 e1 hf hn hF
  refine ⟨h3, b1, eqE_trans (eqE_sI (eqE_sI (eqE_sI (eqE_refl _) (by unfold lMs; omega)) (by unfold lMs; omega)) (by unfold lMs; omega)) b3, fun Q X cl hq => ?_⟩
  rw [e]
  refine ⟨in_n (by omega) (by omega), fun h12 e12 => ?_⟩
  rw [ix_n (n := n) (by omega)] at e12
  subst e12
  rw [gI_o _ _ (by decide), e, gI_o _ _ (by decide)]
  refine ⟨in_n (by omega) (by omega), fun h13 e13 => ?_⟩
  rw [ix_n (n := n) (by omega)] at e13
  subst e13
  exact m_exprF g0 (m_mustF g1 (b4 Q X cl hq))
/-! the class's parts -/
theorem c_part13 {h : hp} {Q : hp → Prop} (e : gI h 8 4 = 60) (hq : Q (sI (sI h 8 2 1) 8 4 265)) : w_X3_partEnds h Q := by
  unfold w_X3_partEnds w_X3_partEnds_0
  intro h1 e1 sw es
  subst e1
  rw [gI_k _ _ (by decide), e] at es
  subst es
  exact ⟨fun _ h4 e4 => by subst e4; exact hq, fun q => absurd q (by decide), fun q => absurd q (by decide), fun q => absurd rfl q⟩
theorem c_part29 {h : hp} {m : Nat} {Q : hp → Prop} (e : gI h 8 4 = 265) (e9 : gI h 9 2 = nI m) (hm : m < 402) (hq : Q (sI (sI (lawPut (sI h 8 2 1) m 3 0) 8 7 (nI m)) 8 4 266)) : w_X3_partEnds h Q := by
  unfold w_X3_partEnds w_X3_partEnds_0
  intro h1 e1 sw es
  subst e1
  rw [gI_k _ _ (by decide), e] at es
  subst es
  refine ⟨fun q => absurd q (by decide), fun _ => c_lawAdd (m := m) (by rw [gI_o _ _ (by decide)]; exact e9) hm (fun h8 e8 h9 e9 => ?_), fun q => absurd q (by decide), fun _ q => absurd rfl q⟩
  subst e8 e9
  exact hq
theorem c_part30 {h : hp} {m b : Nat} {Q : hp → Prop} (e : gI h 8 4 = 266) (e9 : gI h 9 2 = nI m) (hm : m < 402) (e7 : gI h 8 7 = nI b) (hb : b < 402) (hq : Q (sI (sI (sI (lawPut (sI h 8 2 1) m 4 0) 11 b (nI (m + 1))) 8 4 59) 8 3 1)) : w_X3_partEnds h Q := by
  unfold w_X3_partEnds w_X3_partEnds_0
  intro h1 e1 sw es
  subst e1
  rw [gI_k _ _ (by decide), e] at es
  subst es
  refine ⟨fun q => absurd q (by decide), fun q => absurd q (by decide), fun _ => c_lawAdd (m := m) (by rw [gI_o _ _ (by decide)]; exact e9) hm ?_, fun _ _ q => absurd rfl q⟩
  have g7 : gI (lawPut (sI h 8 2 1) m 4 0) 8 7 = nI b := by rw [gI_lawPut (by omega) (by omega), gI_k _ _ (by decide)]; exact e7
  have g9 : gI (lawPut (sI h 8 2 1) m 4 0) 9 2 = nI (m + 1) := gI_at _ _ _ _
  unfold w_X2_branchHere w_X2_branchHere_0
  rw [g7, g9, ix_n (n := b) (by omega)]
  refine ⟨fun q => absurd q (by rw [t_lt, n_toInt (by omega), show (0 : Int32).toInt = 0 from rfl]; omega), fun _ => ⟨fun q => absurd q (nI_ge (a := b) (b := 402) hb (by omega)), fun _ => ⟨in_n hb (by omega), fun h3 e3 h14 e14 h15 e15 => ?_⟩⟩⟩
  subst e3 e14 e15
  exact hq
theorem c_part4 {h : hp} {m : Nat} {Q : hp → Prop} (e : gI h 8 4 = 59) (e9 : gI h 9 2 = nI m) (hm : m < 402) (hq : Q (sI (lawPut (sI h 8 2 1) m 4 0) 8 1 1)) : w_X3_partEnds h Q := by
  unfold w_X3_partEnds w_X3_partEnds_0
  intro h1 e1 sw es
  subst e1
  rw [gI_k _ _ (by decide), e] at es
  subst es
  refine ⟨fun q => absurd q (by decide), fun q => absurd q (by decide), fun q => absurd q (by decide), fun _ _ _ => c_lawAdd (m := m) (by rw [gI_o _ _ (by decide)]; exact e9) hm (fun h18 e18 => ?_)⟩
  subst e18
  exact hq
def pEs (a _j : Nat) : Prop := a = 8 ∨ a = 9 ∨ a = 10 ∨ a = 11
/-- the token that closes an E -/
theorem L_close {T : Tb} {hc1 hc2 hcP hm1 : hp} {t1 W x1 lo κ : Nat} {Q0 cx mx : Int32} (hκ1 : 1 ≤ κ) (hκ : κ ≤ 36) (ec : cx = cK κ) (em : mx = nI κ) (g : GS T hc1 hm1 t1 W Q0) (hr : rkN (tbK T t1) = 0) (hx : x1 ≤ t1) (c1 : gI hc1 8 1 = 0) (c2 : gI hc1 8 2 = 0) (c6 : gI hc1 8 6 = 0) (c4 : gI hc1 8 4 = cx) (ep : eqE (pC lo) hc1 hc2) (rw1 : ∀ Q : hp → Prop, Q hc2 → w_X3_writeWaiting hc1 1 Q) (eP : eqE pEs hc2 hcP) (rP : ∀ Q : hp → Prop, Q hcP → w_X3_partEnds hc2 Q) :
    (∃ hc3 hm3, eqE s2 hcP hc3 ∧ eqE sM hm1 hm3 ∧ tbK T t1 = κ ∧ GS T hc3 hm3 (t1 + 1) W Q0 ∧ (∀ Q X, clsd20 Q X → X (nI (x1 + 1), hc3) → X (nI x1, hc1)) ∧ (∀ Q : hp → Prop, Q hm3 → w_X12_must hm1 mx Q)) ∨
    (∃ hc3 hm3, BS hc3 hm3 ∧ eqE lCs hc1 hc3 ∧ eqE sM hm1 hm3 ∧ (∀ Q X, clsd20 Q X → Q 0 hc3 → X (nI x1, hc1)) ∧ (∀ Q : hp → Prop, Q hm3 → w_X12_must hm1 mx Q)) := by
  subst ec em
  have k36 := g.1.1.2.1 t1
  have c62 : gI hc2 8 6 = 0 := by rw [eqE_I ep (by unfold pC; omega)]; exact c6
  by_cases hk : tbK T t1 = κ
  · have gP : GS T hcP hm1 t1 W Q0 := GS_f (agI_t (agI_e ep (fun a j q z => by unfold kGC at q; unfold pC at z; omega)) (agI_e eP (fun a j q z => by unfold kGC at q; unfold pEs at z; omega))) (agI_r _) g
    have cl : ∀ Q X, clsd20 Q X → w_X5_readLaw_78 Q X (nI x1) hcP 0 → X (nI x1, hc1) := fun Q X cl hq => c_enter0 g hx c1 c2 cl (c_behEnd (p := 0) k36 hr c6 (by omega) (fun _ => by
      unfold w_X3_behindUnit_43
      rw [c4, hk]
      refine ⟨fun _ => rw1 _ ⟨fun _ => rP _ hq, fun q => absurd (by rw [c62]; decide) q⟩, fun q => absurd rfl q⟩) (fun q => by omega))
    have mm : ∀ {hm3 : hp} (rm : ∀ Q : hp → Prop, Q hm3 → w_X12_goesOn hm1 Q) (Q : hp → Prop), Q hm3 → w_X12_must hm1 (nI κ) Q := fun {hm3} rm Q hq => by
      unfold w_X12_must w_X12_must_0
      exact isH (GS_m g) hκ (fun _ => ⟨fun q => absurd q (by decide), fun _ => rm _ hq⟩) (fun q => absurd hk q)
    rcases L_next gP (by omega) with ⟨hc3, hm3, e1, e2, g3, r1, r2⟩ | ⟨hc3, hm3, e1, e2, g3, r1, r2⟩
    · exact Or.inl ⟨hc3, hm3, e1, e2, hk, g3, fun Q X c hq => cl Q X c (c_78go gP r1 hq), mm r2⟩
    · refine Or.inr ⟨hc3, hm3, g3, eqE_trans (eqE_w (fun a j q => by unfold pC at q; unfold lCs; omega) ep) (eqE_trans (eqE_w (fun a j q => by unfold pEs at q; unfold lCs; omega) eP) (s2_l e1)), e2, fun Q X c hq => cl Q X c (c_78bad gP r1 hq), mm r2⟩
  · refine Or.inr ⟨cSt T hc1 1 t1, mSt T hm1 1 t1, BS_st g (by omega) (by omega), s2_l cSt_e, mSt_e, fun Q X cl hq => c_enter0 g hx c1 c2 cl (c_behEnd (p := 0) k36 hr c6 (by omega) (fun _ => ?_) (fun q => by omega)), fun Q hq => ?_⟩
    · unfold w_X3_behindUnit_43
      rw [c4]
      exact ⟨fun q => absurd ((cK_inj k36 hκ).mp q) hk, fun _ => c_78stop (F := 1) g (Or.inl rfl) hq⟩
    · unfold w_X12_must w_X12_must_0
      exact isH (GS_m g) hκ (fun q => absurd q hk) (fun _ => ⟨fun _ => failH (F := 1) (GS_m g) hq, fun q => absurd rfl q⟩)
/-- an E from its first token on -/
theorem L_E {T : Tb} {hc hm : hp} {t W x sh B BT c0 : Nat} {Q0 : Int32} (hBT : BT + 420 ≤ 840) (g : GS T hc hm t W Q0) (hx : x ≤ t) (c1 : gI hc 8 1 = 0) (c2 : gI hc 8 2 = 1) (c6 : gI hc 8 6 = 0) (c9 : gI hc 8 9 = 0) (c92 : gI hc 9 2 = nI (c0 + sh)) (hb : gI hc 8 3 = 0 ∨ ¬ tbK T t = 28) (m12 : gI hm 0 12 = 0) (m43 : gI hm 0 43 = nI (B + c0)) (b1 : c0 + sh + 1 ≤ t) (b2 : B + c0 ≤ BT + t) :
    (∃ hc1 hm1, BS hc1 hm1 ∧ eqE lCs hc hc1 ∧ eqE (eMs (B + c0) (BT + 420)) hm hm1 ∧ (∀ Q X, clsd20 Q X → Q 0 hc1 → X (nI x, hc)) ∧ (∀ Q : hp → Prop, Q hm1 → w_X12_expression hm Q)) ∨
    (∃ (hc1 hc2 hm1 : hp) (t1 x1 e1 : Nat) (op1 : Nat → Nat × Int32), GS T hc1 hm1 t1 W Q0 ∧ (rkN (tbK T t1) = 0 ∧ x1 ≤ t1 ∧ t + 1 ≤ t1 ∧ e1 + sh + 1 ≤ t1 ∧ B + e1 ≤ BT + t1) ∧ (gI hc1 8 1 = 0 ∧ gI hc1 8 2 = 0 ∧ gI hc1 8 6 = 0 ∧ gI hc1 8 3 = 0) ∧ gI hm1 0 12 = 0 ∧ (gI hc2 8 9 = 0 ∧ gI hc2 9 2 = nI (e1 + sh) ∧ ∀ c, c0 ≤ c → c < e1 → isStep 9 hc2 (c + sh) (op1 c)) ∧ (gI hm1 0 43 = nI (B + e1) ∧ ∀ c, c0 ≤ c → c < e1 → gI hm1 29 (B + c) = nI (op1 c).1 ∧ ((op1 c).1 < 2 → gI hm1 30 (B + c) = (op1 c).2)) ∧ wfE op1 c0 e1 ∧ (eqE (eCs (c0 + sh)) hc hc1 ∧ eqE (pC (c0 + sh)) hc1 hc2 ∧ eqE (eMs (B + c0) (BT + 420)) hm hm1) ∧
      (∀ Q X, clsd20 Q X → X (nI x1, hc1) → X (nI x, hc)) ∧ (∀ Q : hp → Prop, Q hc2 → w_X3_writeWaiting hc1 1 Q) ∧ (∀ Q : hp → Prop, Q hm1 → w_X12_expression hm Q)) := by
  have e13 := (GS_0 g).1
  have gz : GS T hc (sI hm 0 47 0) t W Q0 := GS_f (agI_r _) (agI_sI (agI_r _) (by unfold kGM; omega)) g
  have fz : eqE (eMs (B + c0) (BT + 420)) hm (sI hm 0 47 0) := eqE_sI (eqE_refl _) (by unfold eMs; omega)
  have es : ES T hc (sI hm 0 47 0) t W Q0 x sh B BT c0 0 [] c0 (nS []) 1 := by
    refine ⟨gz, ⟨hx, rfl, by omega, trivial, by show c0 + sh + 0 + 1 ≤ t; omega, by show B + c0 + 0 ≤ BT + t; omega⟩, ⟨c1, c2, c6⟩, ?_, fun _ => (0, 0), ⟨c9, trivial, c92, fun c h1 h2 => by omega⟩, ⟨gI_at _ _ _ _, trivial, ?_, fun c h1 h2 => by omega⟩, Nat.le_refl _, fun _ => 0, rfl, rfl, fun c h1 h2 => by omega⟩
    · rw [gI_k _ _ (by decide)]; exact m12
    · rw [gI_k _ _ (by decide)]; exact m43
  rcases (L_expr hBT (401 - t)).1 t hc (sI hm 0 47 0) x 0 [] c0 rfl es hb with ⟨hc1, hm1, b, e1, e2, r1, r2⟩ | ⟨hc1, hc2, hm1, t1, x1, e1, op1, g1, q1, s1, s2', ⟨p1, p2, p3⟩, ⟨f1, f2, f3⟩, r1, r2, r3⟩
  · exact Or.inl ⟨hc1, hm1, b, eCs_l e1, eqE_trans fz e2, r1, fun Q hq => m_exprRun e13 m12 (fun X cl => r2 Q X cl hq)⟩
  · exact Or.inr ⟨hc1, hc2, hm1, t1, x1, e1, op1, g1, q1, s1, s2', ⟨p1.1, p1.2.2.1, p1.2.2.2⟩, ⟨p2.2.2.1, p2.2.2.2⟩, p3, ⟨f1, f2, eqE_trans fz f3⟩, r1, r2, fun Q hq => m_exprRun e13 m12 (fun X cl => r3 Q X cl hq)⟩
/-! what of a law is told -/
def LDw (b : Nat) (op : Nat → Nat × Int32) (st md te : Nat → Nat) : Prop := st 0 = 0 ∧ ∀ k, k < b → wfE op (st k) (md k) ∧ wfE op (md k) (te k) ∧ wfE op (te k) (st (k + 1))
theorem LDw_le {b : Nat} {op : Nat → Nat × Int32} {st md te : Nat → Nat} (w : LDw b op st md te) : ∀ n k, n + k = b → st k ≤ st b := by
  intro n
  induction n with
  | zero => intro k hk; rw [show k = b from by omega]; exact Nat.le_refl _
  | succ n ih =>
    intro k hk
    have := ih (k + 1) (by omega)
    obtain ⟨w1, w2, w3⟩ := w.2 k (by omega)
    have := w1.1
    have := w2.1
    have := w3.1
    omega
theorem LDw_k {b : Nat} {op : Nat → Nat × Int32} {st md te : Nat → Nat} (w : LDw b op st md te) {k : Nat} (hk : k < b) : st k ≤ md k ∧ md k ≤ te k ∧ te k ≤ st (k + 1) ∧ st (k + 1) ≤ st b := by
  obtain ⟨w1, w2, w3⟩ := w.2 k hk
  exact ⟨w1.1, w2.1, w3.1, LDw_le w (b - (k + 1)) (k + 1) (by omega)⟩
theorem wfE_cg {op op' : Nat → Nat × Int32} {x y : Nat} (h : ∀ c, x ≤ c → c < y → op' c = op c) (w : wfE op x y) : wfE op' x y := by
  obtain ⟨w1, D, d0, d1, hD⟩ := w
  exact ⟨w1, D, d0, d1, fun c h1 h2 => by rw [h c h1 h2]; exact hD c h1 h2⟩
def LDc (b : Nat) (op : Nat → Nat × Int32) (st te : Nat → Nat) (h : hp) : Prop := ∀ k, k < b → (∀ c, st k ≤ c → c < te k → isStep 9 h (c + 2 * k) (op c)) ∧ gI h 10 (te k + 2 * k) = 3 ∧ gI h 11 (te k + 2 * k) = nI (st (k + 1) + 2 * k + 2) ∧ (∀ c, te k ≤ c → c < st (k + 1) → isStep 9 h (c + 2 * k + 1) (op c)) ∧ gI h 10 (st (k + 1) + 2 * k + 1) = 4
def LDm (B f b : Nat) (op : Nat → Nat × Int32) (st md te : Nat → Nat) (h : hp) : Prop := (∀ k, k < b → gI h 24 (f + k) = 1 ∧ gI h 25 (f + k) = nI (B + st k) ∧ gI h 26 (f + k) = nI (B + md k) ∧ gI h 27 (f + k) = nI (B + te k) ∧ gI h 28 (f + k) = nI (B + st (k + 1))) ∧ ∀ c, c < st b → gI h 29 (B + c) = nI (op c).1 ∧ ((op c).1 < 2 → gI h 30 (B + c) = (op c).2)
theorem isStep_f {h h1 : hp} {i : Nat} {p : Nat × Int32} (e1 : gI h1 10 i = gI h 10 i) (e2 : gI h1 11 i = gI h 11 i) (s : isStep 9 h i p) : isStep 9 h1 i p := ⟨by rw [show (9 : Nat) + 1 = 10 from rfl, e1]; exact s.1, fun q => by rw [show (9 : Nat) + 2 = 11 from rfl, e2]; exact s.2 q⟩
theorem LDc_f {b : Nat} {op : Nat → Nat × Int32} {st md te : Nat → Nat} {h h1 : hp} (w : LDw b op st md te) (e : ∀ a j, (a = 10 ∨ a = 11) → j < st b + 2 * b → gI h1 a j = gI h a j) (d : LDc b op st te h) : LDc b op st te h1 := fun k hk => by
  obtain ⟨d1, d2, d3, d4, d5⟩ := d k hk
  obtain ⟨w1, w2, w3, w4⟩ := LDw_k w hk
  refine ⟨fun c h1' h2' => isStep_f (e 10 _ (Or.inl rfl) (by omega)) (e 11 _ (Or.inr rfl) (by omega)) (d1 c h1' h2'), ?_, ?_, fun c h1' h2' => isStep_f (e 10 _ (Or.inl rfl) (by omega)) (e 11 _ (Or.inr rfl) (by omega)) (d4 c h1' h2'), ?_⟩
  · rw [e 10 _ (Or.inl rfl) (by omega)]; exact d2
  · rw [e 11 _ (Or.inr rfl) (by omega)]; exact d3
  · rw [e 10 _ (Or.inl rfl) (by omega)]; exact d5
theorem LDm_f {B f b : Nat} {op : Nat → Nat × Int32} {st md te : Nat → Nat} {h h1 : hp} (e : ∀ a j, ((24 ≤ a ∧ a ≤ 28) ∧ f ≤ j ∧ j < f + b) ∨ ((a = 29 ∨ a = 30) ∧ B ≤ j ∧ j < B + st b) → gI h1 a j = gI h a j) (d : LDm B f b op st md te h) : LDm B f b op st md te h1 := by
  refine ⟨fun k hk => ?_, fun c hc => ?_⟩
  · obtain ⟨d1, d2, d3, d4, d5⟩ := d.1 k hk
    refine ⟨?_, ?_, ?_, ?_, ?_⟩
    · rw [e 24 _ (by omega)]; exact d1
    · rw [e 25 _ (by omega)]; exact d2
    · rw [e 26 _ (by omega)]; exact d3
    · rw [e 27 _ (by omega)]; exact d4
    · rw [e 28 _ (by omega)]; exact d5
  · obtain ⟨d1, d2⟩ := d.2 c hc
    exact ⟨by rw [e 29 _ (by omega)]; exact d1, fun q => by rw [e 30 _ (by omega)]; exact d2 q⟩
def LSt (T : Tb) (hc hm : hp) (t W : Nat) (Q0 : Int32) (x b f F0 B BT : Nat) (op : Nat → Nat × Int32) (st md te : Nat → Nat) : Prop :=
  GS T hc hm t W Q0 ∧ (x ≤ t ∧ b ≤ 4 ∧ F0 ≤ f ∧ 4 * (f + b) + 1 ≤ 4 * F0 + t ∧ st b + 2 * b + 1 ≤ t ∧ B + st b ≤ BT + t) ∧ (gI hc 8 1 = 0 ∧ gI hc 8 2 = 1 ∧ gI hc 8 3 = 1 ∧ gI hc 8 4 = 59 ∧ gI hc 8 5 = nI b ∧ gI hc 8 6 = 0 ∧ gI hc 8 9 = 0 ∧ gI hc 9 2 = nI (st b + 2 * b)) ∧ (gI hm 0 12 = 0 ∧ gI hm 0 37 = nI (f + b) ∧ gI hm 0 43 = nI (B + st b)) ∧ LDc b op st te hc ∧ LDm B f b op st md te hm ∧ LDw b op st md te
/-- the tests' part of a law, in the reference: into it -/
def if38 (Q : hp → Prop) (X : Int32 × hp → Prop) (x1 x2 x3 : Int32) (h : hp) : Prop := vp_in (gI h 0 37) 260 ∧ ∀ h12, h12 = sI h 24 (ix (gI h 0 37)) (jz 1) → (vp_in (gI h12 0 37) 260 ∧ ∀ h13, h13 = sI h12 25 (ix (gI h12 0 37)) (gI h12 0 43) → (w_X12_expression h13 (fun h14 => w_X12_must h14 13 (fun h15 => vp_in (gI h15 0 37) 260 ∧ ∀ h16, h16 = sI h15 26 (ix (gI h15 0 37)) (gI h15 0 43) → ((¬ (gI h16 0 13) = 0 → (w_X12_tellLaw_110 Q X x1 x2 x3 h16)) ∧ ((gI h16 0 13) = 0 → (w_X12_expression h16 (fun h18 => w_X12_tellLaw_110 Q X x1 x2 x3 h18))))))))
theorem m_if {T : Tb} {hm : hp} {t W b : Nat} {Q0 x1 x2 : Int32} {Q : hp → Prop} {X : Int32 × hp → Prop} (g : MH T hm t W Q0) (hk : tbK T t = 28) (hb : b < 4) (cl : clsdT Q x1 x2 X) (hq : w_X12_goesOn hm (fun h11 => if38 Q X x1 x2 (nI (b + 1)) h11)) : X (nI b, hm) := by
  apply cl
  show w_X12_tellLaw_b12 Q x1 x2 X (nI b) hm
  unfold w_X12_tellLaw_b12
  refine ⟨fun q => absurd g.2.2.1 q, fun _ => isH (x := 28) g (by omega) (fun _ => ⟨fun q => absurd q (by decide), fun _ => ⟨fun _ => ?_, fun q => absurd ((nI_eq (a := b) (b := 4) (by omega) (by omega)).mp q) (by omega)⟩⟩) (fun q => absurd hk q)⟩
  unfold w_X12_tellLaw_38
  refine ⟨fun _ x3 e3 => ?_, fun q => absurd (by rw [g.2.2.1]; decide) q⟩
  rw [← nI_succ] at e3
  subst e3
  exact hq
theorem m_if38 {h : hp} {n m : Nat} {Q : hp → Prop} {X : Int32 × hp → Prop} {x1 x2 x3 : Int32} (e : gI h 0 37 = nI n) (hn : n < 260) (e2 : gI h 0 43 = nI m) (hq : w_X12_expression (sI (sI h 24 n (jz 1)) 25 n (nI m)) (fun h14 => w_X12_must h14 13 (fun h15 => vp_in (gI h15 0 37) 260 ∧ ∀ h16, h16 = sI h15 26 (ix (gI h15 0 37)) (gI h15 0 43) → ((¬ (gI h16 0 13) = 0 → (w_X12_tellLaw_110 Q X x1 x2 x3 h16)) ∧ ((gI h16 0 13) = 0 → (w_X12_expression h16 (fun h18 => w_X12_tellLaw_110 Q X x1 x2 x3 h18))))))) : if38 Q X x1 x2 x3 h := by
  unfold if38
  rw [e]
  refine ⟨in_n hn (by omega), fun h12 e12 => ?_⟩
  rw [ix_n (n := n) (by omega)] at e12
  subst e12
  rw [gI_o _ _ (by decide), e, gI_o _ _ (by decide), e2]
  refine ⟨in_n hn (by omega), fun h13 e13 => ?_⟩
  rw [ix_n (n := n) (by omega)] at e13
  subst e13
  exact hq
theorem m_at26 {h : hp} {n m : Nat} {Q : hp → Prop} {X : Int32 × hp → Prop} {x1 x2 x3 : Int32} (e : gI h 0 37 = nI n) (hn : n < 260) (e2 : gI h 0 43 = nI m) (e13 : gI h 0 13 = 0) (hq : w_X12_expression (sI h 26 n (nI m)) (fun h18 => w_X12_tellLaw_110 Q X x1 x2 x3 h18)) : vp_in (gI h 0 37) 260 ∧ ∀ h16, h16 = sI h 26 (ix (gI h 0 37)) (gI h 0 43) → ((¬ (gI h16 0 13) = 0 → (w_X12_tellLaw_110 Q X x1 x2 x3 h16)) ∧ ((gI h16 0 13) = 0 → (w_X12_expression h16 (fun h18 => w_X12_tellLaw_110 Q X x1 x2 x3 h18)))) := by
  rw [e, e2]
  refine ⟨in_n hn (by omega), fun h16 e16 => ?_⟩
  rw [ix_n (n := n) (by omega)] at e16
  subst e16
  exact ⟨fun q => absurd (by rw [gI_o _ _ (by decide)]; exact e13) q, fun _ => hq⟩
theorem m_term {h : hp} {n m : Nat} {Q : hp → Prop} (e : gI h 0 37 = nI n) (hn : n < 260) (e2 : gI h 0 43 = nI m) (e13 : gI h 0 13 = 0) (hq : w_X12_expression (sI h 27 n (nI m)) (fun h3 => w_X12_term_24 Q h3)) : w_X12_term h Q := by
  unfold w_X12_term w_X12_term_0
  rw [e, e2]
  refine ⟨in_n hn (by omega), fun h1 e1 => ?_⟩
  rw [ix_n (n := n) (by omega)] at e1
  subst e1
  exact ⟨fun q => absurd (by rw [gI_o _ _ (by decide)]; exact e13) q, fun _ => hq⟩
/-- an E and the token that closes it -/
theorem L_Ec {T : Tb} {hc hm : hp} {t W x sh B BT c0 κ : Nat} {Q0 cx mx : Int32} (pe : hp → Nat → hp) (mid : Nat → hp → hp) (hBT : BT + 420 ≤ 840) (hκ1 : 1 ≤ κ) (hκ : κ ≤ 36) (ec : cx = cK κ) (em : mx = nI κ) (g : GS T hc hm t W Q0) (hx : x ≤ t) (c1 : gI hc 8 1 = 0) (c2 : gI hc 8 2 = 1) (c6 : gI hc 8 6 = 0) (c9 : gI hc 8 9 = 0) (c92 : gI hc 9 2 = nI (c0 + sh)) (hb : gI hc 8 3 = 0 ∨ ¬ tbK T t = 28) (c4 : gI hc 8 4 = cx) (m12 : gI hm 0 12 = 0) (m43 : gI hm 0 43 = nI (B + c0)) (b1 : c0 + sh + 1 ≤ t) (b2 : B + c0 ≤ BT + t)
    (hpe : ∀ hc2 e1, e1 + sh ≤ 400 → gI hc2 8 4 = cx → gI hc2 9 2 = nI (e1 + sh) → gI hc2 8 7 = gI hc 8 7 → ∀ Q : hp → Prop, Q (pe hc2 e1) → w_X3_partEnds hc2 Q) (hpf : ∀ hc2 e1, eqE pEs hc2 (pe hc2 e1)) (hmd : ∀ e1 h, eqE (fun a j => a = 28 ∨ (a = 0 ∧ j = 37)) h (mid e1 h)) :
    (∃ hc1 hm1, BS hc1 hm1 ∧ eqE lCs hc hc1 ∧ eqE (eMs (B + c0) (BT + 420)) hm hm1 ∧ (∀ Q X, clsd20 Q X → Q 0 hc1 → X (nI x, hc)) ∧ (∀ Q : hp → Prop, Q hm1 → w_X12_expression hm Q)) ∨
    (∃ hc3 hm1 hm3 e1, BS hc3 hm3 ∧ eqE lCs hc hc3 ∧ eqE (eMs (B + c0) (BT + 420)) hm hm1 ∧ gI hm1 0 13 = 0 ∧ gI hm1 0 43 = nI (B + e1) ∧ eqE sM (mid e1 hm1) hm3 ∧ (∀ Q X, clsd20 Q X → Q 0 hc3 → X (nI x, hc)) ∧ (∀ Q : hp → Prop, Q hm1 → w_X12_expression hm Q) ∧ (∀ Q : hp → Prop, Q hm3 → w_X12_must (mid e1 hm1) mx Q)) ∨
    (∃ (hc2 hm1 hc3 hm3 : hp) (t1 x1 e1 : Nat) (op1 : Nat → Nat × Int32), GS T hc3 hm3 t1 W Q0 ∧ (x1 ≤ t1 ∧ t + 2 ≤ t1 ∧ e1 + sh + 2 ≤ t1 ∧ B + e1 + 1 ≤ BT + t1) ∧ (gI hc2 8 1 = 0 ∧ gI hc2 8 6 = 0 ∧ gI hc2 8 3 = 0 ∧ gI hc2 8 9 = 0 ∧ gI hc2 9 2 = nI (e1 + sh) ∧ ∀ c, c0 ≤ c → c < e1 → isStep 9 hc2 (c + sh) (op1 c)) ∧ (gI hm1 0 13 = 0 ∧ gI hm1 0 12 = 0 ∧ gI hm1 0 43 = nI (B + e1) ∧ ∀ c, c0 ≤ c → c < e1 → gI hm1 29 (B + c) = nI (op1 c).1 ∧ ((op1 c).1 < 2 → gI hm1 30 (B + c) = (op1 c).2)) ∧ wfE op1 c0 e1 ∧ (eqE (eCs (c0 + sh)) hc hc2 ∧ eqE s2 (pe hc2 e1) hc3 ∧ eqE (eMs (B + c0) (BT + 420)) hm hm1 ∧ eqE sM (mid e1 hm1) hm3) ∧
      (∀ Q X, clsd20 Q X → X (nI x1, hc3) → X (nI x, hc)) ∧ (∀ Q : hp → Prop, Q hm1 → w_X12_expression hm Q) ∧ (∀ Q : hp → Prop, Q hm3 → w_X12_must (mid e1 hm1) mx Q)) := by
  rcases L_E hBT g hx c1 c2 c6 c9 c92 hb m12 m43 b1 b2 with h | ⟨hc1, hc2, hm1, t1, x1, e1, op1, g1, ⟨k1, k2, k3, k4, k5⟩, ⟨s1, s2', s3, s4⟩, mm, ⟨p1, p2, p3⟩, ⟨q1, q2⟩, w1, ⟨f1, f2, f3⟩, r1, r2, r3⟩
  · exact Or.inl h
  right
  have t4 := g1.1.2.2.2.1
  have z13 := (GS_0 g1).1
  have a4 : gI hc1 8 4 = cx := by rw [eqE_I f1 (by unfold eCs; omega)]; exact c4
  have a42 : gI hc2 8 4 = cx := by rw [eqE_I f2 (by unfold pC; omega)]; exact a4
  have a7 : gI hc2 8 7 = gI hc 8 7 := by rw [eqE_I f2 (by unfold pC; omega), eqE_I f1 (by unfold eCs; omega)]
  have gm : GS T hc1 (mid e1 hm1) t1 W Q0 := GS_f (agI_r _) (agI_e (hmd e1 hm1) (fun a j q z => by unfold kGM at q; omega)) g1
  have fc2 : eqE (eCs (c0 + sh)) hc hc2 := eqE_trans f1 (pC_e f2)
  rcases L_close hκ1 hκ ec em gm k1 k2 s1 s2' s3 a4 f2 r2 (hpf hc2 e1) (hpe hc2 e1 (by omega) a42 p2 a7) with ⟨hc3, hm3, u1, u2, u3, u4, u5, u6⟩ | ⟨hc3, hm3, u1, u2, u3, u4, u5⟩
  · right
    refine ⟨hc2, hm1, hc3, hm3, t1 + 1, x1 + 1, e1, op1, u4, ⟨by omega, by omega, by omega, by omega⟩, ⟨?_, ?_, ?_, p1, p2, p3⟩, ⟨z13, mm, q1, q2⟩, w1, ⟨fc2, u1, f3, u2⟩, fun Q X cl hq => r1 Q X cl (u5 Q X cl hq), r3, u6⟩
    · rw [eqE_I f2 (by unfold pC; omega)]; exact s1
    · rw [eqE_I f2 (by unfold pC; omega)]; exact s3
    · rw [eqE_I f2 (by unfold pC; omega)]; exact s4
  · left
    exact ⟨hc3, hm1, hm3, e1, u1, eqE_trans (eCs_l f1) u2, f3, z13, q1, u3, fun Q X cl hq => r1 Q X cl (u4 Q X cl hq), r3, u5⟩
def kOut (lo : Nat) (a j : Nat) : Prop := ¬ ((a = 10 ∨ a = 11) ∧ j < lo)
theorem kO_e {lo l : Nat} {h h1 : hp} (hl : lo ≤ l) (e : eqE (eCs l) h h1) : eqE (kOut lo) h h1 := eqE_w (fun a j q => by unfold eCs at q; unfold kOut; omega) e
theorem kO_s {lo : Nat} {h h1 : hp} (e : eqE s2 h h1) : eqE (kOut lo) h h1 := eqE_w (fun a j q => by unfold s2 at q; unfold kOut; omega) e
def pe13 (h : hp) (_e : Nat) : hp := sI (sI h 8 2 1) 8 4 265
def pe29 (sh : Nat) (h : hp) (e : Nat) : hp := sI (sI (lawPut (sI h 8 2 1) (e + sh) 3 0) 8 7 (nI (e + sh))) 8 4 266
def pe30 (sh b : Nat) (h : hp) (e : Nat) : hp := sI (sI (sI (lawPut (sI h 8 2 1) (e + sh) 4 0) 11 b (nI (e + sh + 1))) 8 4 59) 8 3 1
def pe4 (sh : Nat) (h : hp) (e : Nat) : hp := sI (lawPut (sI h 8 2 1) (e + sh) 4 0) 8 1 1
def md0 (_e : Nat) (h : hp) : hp := h
def md28 (n B e : Nat) (h : hp) : hp := sI (sI h 28 n (nI (B + e))) 0 37 (nI (n + 1))
theorem lawPut_p {h h1 : hp} {m : Nat} {k v : Int32} (e : eqE pEs h h1) : eqE pEs h (lawPut h1 m k v) := eqE_sI (eqE_sI (eqE_sI e (by unfold pEs; omega)) (by unfold pEs; omega)) (by unfold pEs; omega)
theorem pe13_e {h : hp} {e : Nat} : eqE pEs h (pe13 h e) := eqE_sI (eqE_sI (eqE_refl _) (by unfold pEs; omega)) (by unfold pEs; omega)
theorem pe29_e {h : hp} {sh e : Nat} : eqE pEs h (pe29 sh h e) := eqE_sI (eqE_sI (lawPut_p (eqE_sI (eqE_refl _) (by unfold pEs; omega))) (by unfold pEs; omega)) (by unfold pEs; omega)
theorem pe30_e {h : hp} {sh b e : Nat} : eqE pEs h (pe30 sh b h e) := eqE_sI (eqE_sI (eqE_sI (lawPut_p (eqE_sI (eqE_refl _) (by unfold pEs; omega))) (by unfold pEs; omega)) (by unfold pEs; omega)) (by unfold pEs; omega)
theorem pe4_e {h : hp} {sh e : Nat} : eqE pEs h (pe4 sh h e) := eqE_sI (lawPut_p (eqE_sI (eqE_refl _) (by unfold pEs; omega))) (by unfold pEs; omega)
theorem md28_e {n B e : Nat} {h : hp} : eqE (fun a j => a = 28 ∨ (a = 0 ∧ j = 37)) h (md28 n B e h) := eqE_sI (eqE_sI (eqE_refl _) (by omega)) (by omega)
theorem pEs_l {h h1 : hp} (e : eqE pEs h h1) : eqE lCs h h1 := eqE_w (fun a j q => by unfold pEs at q; unfold lCs; omega) e
theorem kO_put {lo m : Nat} {h h1 : hp} {k v : Int32} (e : eqE (kOut lo) h h1) (hm : lo ≤ m) : eqE (kOut lo) h (lawPut h1 m k v) := eqE_sI (eqE_sI (eqE_sI e (by unfold kOut; omega)) (by unfold kOut; omega)) (by unfold kOut; omega)
/-- an if .. else of a law -/
theorem L_branch {T : Tb} {W f F0 B BT : Nat} {Q0 : Int32} (hBT : BT + 420 ≤ 840) (hF0 : F0 + 130 ≤ 260) {t x b : Nat} {hc hm : hp} {op : Nat → Nat × Int32} {st md te : Nat → Nat} (x1 x2 : Int32) (hL : LSt T hc hm t W Q0 x b f F0 B BT op st md te) (hb4 : b < 4) (hk : tbK T t = 28) :
    (∃ hc1 hm1, BS hc1 hm1 ∧ eqE lCs hc hc1 ∧ eqE (lMs f (F0 + 130) B (BT + 420)) hm hm1 ∧ (∀ Q X, clsd20 Q X → Q 0 hc1 → X (nI x, hc)) ∧ (∀ Q X, clsdT Q x1 x2 X → Q hm1 → X (nI b, hm))) ∨
    (∃ (hc1 hm1 : hp) (t1 x' : Nat) (op' : Nat → Nat × Int32) (st' md' te' : Nat → Nat), LSt T hc1 hm1 t1 W Q0 x' (b + 1) f F0 B BT op' st' md' te' ∧ t < t1 ∧ eqE lCs hc hc1 ∧ eqE (lMs f (F0 + 130) B (BT + 420)) hm hm1 ∧ (∀ Q X, clsd20 Q X → X (nI x', hc1) → X (nI x, hc)) ∧ (∀ Q X, clsdT Q x1 x2 X → X (nI (b + 1), hm1) → X (nI b, hm))) := by
  obtain ⟨g, ⟨b1, b2, b3, b4, b5, b6⟩, ⟨c1, c2, c3, c4, c5, c6, c9, c92⟩, ⟨m12, m37, m43⟩, dc, dm, dw⟩ := hL
  have t4 := g.1.2.2.2.1
  let hcA := sI (sI (sI hc 8 3 0) 8 5 (nI (b + 1))) 8 4 60
  have kA : ∀ j, ¬ (j = 3 ∨ j = 4 ∨ j = 5) → gI hcA 8 j = gI hc 8 j := fun j n => by
    show gI (sI (sI (sI hc 8 3 0) 8 5 _) 8 4 60) 8 j = _
    rw [gI_k _ _ (by omega), gI_k _ _ (by omega), gI_k _ _ (by omega)]
  have kAo : ∀ a j, ¬ a = 8 → gI hcA a j = gI hc a j := fun a j n => by
    show gI (sI (sI (sI hc 8 3 0) 8 5 _) 8 4 60) a j = _
    rw [gI_o _ _ n, gI_o _ _ n, gI_o _ _ n]
  have fA : eqE lCs hc hcA := eqE_sI (eqE_sI (eqE_sI (eqE_refl _) (by unfold lCs; omega)) (by unfold lCs; omega)) (by unfold lCs; omega)
  have kOA : eqE (kOut (st b + 2 * b)) hc hcA := eqE_sI (eqE_sI (eqE_sI (eqE_refl _) (by unfold kOut; omega)) (by unfold kOut; omega)) (by unfold kOut; omega)
  have gA : GS T hcA hm t W Q0 := GS_f (agI_sI (agI_sI (agI_sI (agI_r _) (by unfold kGC; omega)) (by unfold kGC; omega)) (by unfold kGC; omega)) (agI_r _) g
  have cA : ∀ Q X, clsd20 Q X → w_X5_readLaw_78 Q X (nI x) hcA 0 → X (nI x, hc) := fun Q X cl hq => c_enter1 g b1 c1 c2 cl (fun v _ => by
    rw [hk]
    unfold w_X3_unit w_X3_unit_0
    refine ⟨fun q => absurd rfl q, fun _ => ⟨fun q => absurd (by rw [← c3, q]) (by decide : ¬ (1 : Int32) = 0), fun _ h3 e3 => ⟨fun q => absurd q (by decide), fun _ => ?_⟩⟩⟩
    subst e3
    unfold w_X3_branchBegins w_X3_branchBegins_0
    have e5 : gI (sI hc 8 3 0) 8 5 = nI b := by rw [gI_k _ _ (by decide)]; exact c5
    rw [e5]
    refine ⟨fun _ h2 e2 h3 e3 => ?_, fun q => absurd ((nI_eq (a := b) (b := 4) (by omega) (by omega)).mp q) (by omega)⟩
    rw [← nI_succ] at e2
    subst e2 e3
    exact hq)
  rcases L_next gA (by omega) with ⟨hc1, hm1, e1, e2, g1, r1, r2⟩ | ⟨hc1, hm1, e1, e2, ⟨F, P, cf, fm⟩, r1, r2⟩
  rotate_left
  · have q37 : gI hm1 0 37 = nI (f + b) := by rw [eqE_I e2 (by unfold sM; omega)]; exact m37
    obtain ⟨h3, g3, x3, r3⟩ := m_38F (x1 := x1) (x2 := x2) (x3 := nI (b + 1)) (f := f) (F1 := F0 + 130) (B := B) (B1 := BT + 420) fm q37 (by omega) (by omega) hF0
    exact Or.inl ⟨hc1, h3, ⟨F, P, cf, g3⟩, eqE_trans fA (s2_l e1), eqE_trans (sM_l e2) x3, fun Q X cl hq => cA Q X cl (c_78bad gA r1 hq), fun Q X cl hq => m_if (GS_m g) hk hb4 cl (r2 _ (r3 Q X cl hq))⟩
  have q37 : gI hm1 0 37 = nI (f + b) := by rw [eqE_I e2 (by unfold sM; omega)]; exact m37
  have q43 : gI hm1 0 43 = nI (B + st b) := by rw [eqE_I e2 (by unfold sM; omega)]; exact m43
  let hmB := sI (sI hm1 24 (f + b) (jz 1)) 25 (f + b) (nI (B + st b))
  have kB : ∀ a j, ¬ (a = 24 ∨ a = 25) → gI hmB a j = gI hm1 a j := fun a j n => by
    show gI (sI (sI hm1 24 _ _) 25 _ _) a j = _
    rw [gI_o _ _ (by omega), gI_o _ _ (by omega)]
  have gB : GS T hc1 hmB (t + 1) W Q0 := GS_f (agI_r _) (agI_sI (agI_sI (agI_r _) (by unfold kGM; omega)) (by unfold kGM; omega)) g1
  have fB : eqE (lMs f (F0 + 130) B (BT + 420)) hm hmB := eqE_sI (eqE_sI (sM_l e2) (by unfold lMs; omega)) (by unfold lMs; omega)
  have mB : ∀ (Q : hp → Prop) (X : Int32 × hp → Prop), clsdT Q x1 x2 X → w_X12_expression hmB (fun h14 => w_X12_must h14 13 (fun h15 => vp_in (gI h15 0 37) 260 ∧ ∀ h16, h16 = sI h15 26 (ix (gI h15 0 37)) (gI h15 0 43) → ((¬ (gI h16 0 13) = 0 → (w_X12_tellLaw_110 Q X x1 x2 (nI (b + 1)) h16)) ∧ ((gI h16 0 13) = 0 → (w_X12_expression h16 (fun h18 => w_X12_tellLaw_110 Q X x1 x2 (nI (b + 1)) h18)))))) → X (nI b, hm) := fun Q X cl hq => m_if (GS_m g) hk hb4 cl (r2 _ (m_if38 q37 (by omega) q43 hq))
  have cB : ∀ Q X, clsd20 Q X → X (nI (x + 1), hc1) → X (nI x, hc) := fun Q X cl hq => cA Q X cl (c_78go gA r1 hq)
  have fB1 : eqE lCs hc hc1 := eqE_trans fA (s2_l e1)
  have n37 : ∀ {h : hp}, eqE (eMs (B + st b) (BT + 420)) hmB h → gI h 0 37 = nI (f + b) := fun e => by rw [eqE_I e (by unfold eMs; omega), kB _ _ (by omega)]; exact q37
  have a8 : ∀ j, ¬ (j = 3 ∨ j = 4 ∨ j = 5) → gI hc1 8 j = gI hc 8 j := fun j n => by rw [eqE_I e1 (by unfold s2; omega), kA j n]
  have a83 : gI hc1 8 3 = 0 := by rw [eqE_I e1 (by unfold s2; omega)]; show gI (sI (sI (sI hc 8 3 0) 8 5 _) 8 4 60) 8 3 = 0; rw [gI_k _ _ (by decide), gI_k _ _ (by decide)]; exact gI_at _ _ _ _
  have a84 : gI hc1 8 4 = 60 := by rw [eqE_I e1 (by unfold s2; omega)]; exact gI_at _ _ _ _
  have a85 : gI hc1 8 5 = nI (b + 1) := by rw [eqE_I e1 (by unfold s2; omega)]; show gI (sI (sI (sI hc 8 3 0) 8 5 _) 8 4 60) 8 5 = _; rw [gI_k _ _ (by decide)]; exact gI_at _ _ _ _
  have a92 : gI hc1 9 2 = nI (st b + 2 * b) := by rw [eqE_I e1 (by unfold s2; omega), kAo _ _ (by decide)]; exact c92
  -- the first E
  rcases L_Ec (κ := 13) (cx := 60) (mx := 13) pe13 md0 hBT (by omega) (by omega) rfl rfl gB (x := x + 1) (by omega) (by rw [a8 1 (by omega)]; exact c1) (by rw [a8 2 (by omega)]; exact c2) (by rw [a8 6 (by omega)]; exact c6) (by rw [a8 9 (by omega)]; exact c9) a92 (Or.inl a83) a84 (by rw [kB _ _ (by omega), eqE_I e2 (by unfold sM; omega)]; exact m12) (by rw [kB _ _ (by omega)]; exact q43) (by omega) (by omega) (fun hc2 e1 _ h4 _ _ Q hq => c_part13 h4 hq) (fun _ _ => pe13_e) (fun _ _ => eqE_refl _) with ⟨hcX, hmX, ⟨F, P, cf, fm⟩, w1, w2, w3, w4⟩ | ⟨hcX, hmY, hmX, eX, ⟨F, P, cf, fm⟩, w1, w2, wz, w43, w5, w3, w4, w6⟩ | ⟨hc2, hm2, hc3, hm3, t3, xx3, ea, op1, g3, ⟨l1, l2, l3, l4⟩, ⟨u1, u2, u3, u4, u5, u6⟩, ⟨v1, v2, v3, v4⟩, we1, ⟨f1, f2, f3, f4⟩, rc3, re3, rm3⟩
  · obtain ⟨h3, y1, y2, y3⟩ := m_26F (x1 := x1) (x2 := x2) (x3 := nI (b + 1)) (f := f) (F1 := F0 + 130) (B := B) (B1 := BT + 420) fm (n37 w2) (by omega) (by omega) hF0
    exact Or.inl ⟨hcX, h3, ⟨F, P, cf, y1⟩, eqE_trans fB1 w1, eqE_trans fB (eqE_trans (eMs_l (by omega) w2) y2), fun Q X cl hq => cB Q X cl (w3 Q X cl hq), fun Q X cl hq => mB Q X cl (w4 _ (m_mustF fm (y3 Q X cl hq)))⟩
  · have n37' : gI hmX 0 37 = nI (f + b) := by rw [eqE_I w5 (by unfold sM; omega)]; exact n37 w2
    obtain ⟨h3, y1, y2, y3⟩ := m_26F (x1 := x1) (x2 := x2) (x3 := nI (b + 1)) (f := f) (F1 := F0 + 130) (B := B) (B1 := BT + 420) fm n37' (by omega) (by omega) hF0
    exact Or.inl ⟨hcX, h3, ⟨F, P, cf, y1⟩, eqE_trans fB1 w1, eqE_trans fB (eqE_trans (eMs_l (by omega) w2) (eqE_trans (sM_l w5) y2)), fun Q X cl hq => cB Q X cl (w3 Q X cl hq), fun Q X cl hq => mB Q X cl (w4 _ (w6 _ (y3 Q X cl hq)))⟩
  -- the second E
  have hab := we1.1
  have f4 : eqE sM hm2 hm3 := f4
  have o37 : gI hm3 0 37 = nI (f + b) := by rw [eqE_I f4 (by unfold sM; omega)]; exact n37 f3
  have o43 : gI hm3 0 43 = nI (B + ea) := by rw [eqE_I f4 (by unfold sM; omega)]; exact v3
  have o13 := (GS_0 g3).1
  let hmC := sI hm3 26 (f + b) (nI (B + ea))
  have gC : GS T hc3 hmC t3 W Q0 := GS_f (agI_r _) (agI_sI (agI_r _) (by unfold kGM; omega)) g3
  have kC' : ∀ a j, ¬ a = 26 → gI hmC a j = gI hm3 a j := fun a j n => gI_o _ _ n
  have fC : eqE (lMs f (F0 + 130) B (BT + 420)) hm hmC := eqE_sI (eqE_trans fB (eqE_trans (eMs_l (by omega) f3) (sM_l f4))) (by unfold lMs; omega)
  have mC : ∀ (Q : hp → Prop) (X : Int32 × hp → Prop), clsdT Q x1 x2 X → w_X12_expression hmC (fun h18 => w_X12_tellLaw_110 Q X x1 x2 (nI (b + 1)) h18) → X (nI b, hm) := fun Q X cl hq => mB Q X cl (re3 _ (rm3 _ (m_at26 o37 (by omega) o43 o13 hq)))
  have cC : ∀ Q X, clsd20 Q X → X (nI xx3, hc3) → X (nI x, hc) := fun Q X cl hq => cB Q X cl (rc3 Q X cl hq)
  have p8 : ∀ j, ¬ (j = 2 ∨ j = 4) → gI hc3 8 j = gI hc2 8 j := fun j n => by
    rw [eqE_I f2 (by unfold s2; omega)]; show gI (sI (sI hc2 8 2 1) 8 4 265) 8 j = _; rw [gI_k _ _ (by omega), gI_k _ _ (by omega)]
  have p82 : gI hc3 8 2 = 1 := by rw [eqE_I f2 (by unfold s2; omega)]; show gI (sI (sI hc2 8 2 1) 8 4 265) 8 2 = _; rw [gI_k _ _ (by decide)]; exact gI_at _ _ _ _
  have p84 : gI hc3 8 4 = 265 := by rw [eqE_I f2 (by unfold s2; omega)]; exact gI_at _ _ _ _
  have p92 : gI hc3 9 2 = nI (ea + 2 * b) := by rw [eqE_I f2 (by unfold s2; omega)]; show gI (sI (sI hc2 8 2 1) 8 4 265) 9 2 = _; rw [gI_o _ _ (by decide), gI_o _ _ (by decide)]; exact u5
  have p85 : gI hc3 8 5 = nI (b + 1) := by rw [p8 5 (by omega), eqE_I f1 (by unfold eCs; omega)]; exact a85
  have fC3 : eqE lCs hc hc3 := eqE_trans fB1 (eqE_trans (eCs_l f1) (eqE_trans (pEs_l pe13_e) (s2_l f2)))
  have n37C : ∀ {h : hp}, eqE (eMs (B + ea) (BT + 420)) hmC h → gI h 0 37 = nI (f + b) := fun e => by rw [eqE_I e (by unfold eMs; omega), kC' _ _ (by omega)]; exact o37
  rcases L_Ec (κ := 29) (cx := 265) (mx := 29) (pe29 (2 * b)) md0 hBT (by omega) (by omega) rfl rfl gC (x := xx3) l1 (by rw [p8 1 (by omega)]; exact u1) p82 (by rw [p8 6 (by omega)]; exact u2) (by rw [p8 9 (by omega)]; exact u4) p92 (Or.inl (by rw [p8 3 (by omega)]; exact u3)) p84 (by rw [kC' _ _ (by omega), eqE_I f4 (by unfold sM; omega)]; exact v2) (by rw [kC' _ _ (by omega)]; exact o43) (by omega) (by omega) (fun hc2 e1 hl h4 h9 _ Q hq => c_part29 h4 h9 (by omega) hq) (fun _ _ => pe29_e) (fun _ _ => eqE_refl _) with ⟨hcX, hmX, ⟨F, P, cf, fm⟩, w1, w2, w3, w4⟩ | ⟨hcX, hmY, hmX, eX, ⟨F, P, cf, fm⟩, w1, w2, wz, w43, w5, w3, w4, w6⟩ | ⟨hc4, hm4, hc5, hm5, t5, xx5, eb, op2, g5, ⟨l1', l2', l3', l4'⟩, ⟨u1', u2', u3', u4', u5', u6'⟩, ⟨v1', v2', v3', v4'⟩, we2, ⟨f1', f2', f3', f4'⟩, rc5, re5, rm5⟩
  · obtain ⟨h3, y1, y2, y3⟩ := m_110F (x1 := x1) (x2 := x2) (x3 := nI (b + 1)) (f := f) (F1 := F0 + 130) (B := B) (B1 := BT + 420) fm (n37C w2) (by omega) (by omega) hF0
    exact Or.inl ⟨hcX, h3, ⟨F, P, cf, y1⟩, eqE_trans fC3 w1, eqE_trans fC (eqE_trans (eMs_l (by omega) w2) y2), fun Q X cl hq => cC Q X cl (w3 Q X cl hq), fun Q X cl hq => mC Q X cl (w4 _ (y3 Q X cl hq))⟩
  · have n37' : gI hmX 0 37 = nI (f + b) := by rw [eqE_I w5 (by unfold sM; omega)]; exact n37C w2
    obtain ⟨h3, y1, y2, y3⟩ := m_110bF (x1 := x1) (x2 := x2) (x3 := nI (b + 1)) (f := f) (F1 := F0 + 130) (B := B) (B1 := BT + 420) fm n37' (by omega) (by omega) hF0
    exact Or.inl ⟨hcX, h3, ⟨F, P, cf, y1⟩, eqE_trans fC3 w1, eqE_trans fC (eqE_trans (eMs_l (by omega) w2) (eqE_trans (sM_l w5) y2)), fun Q X cl hq => cC Q X cl (w3 Q X cl hq), fun Q X cl hq => mC Q X cl (w4 _ (w6 _ (y3 Q X cl hq)))⟩
  -- the term
  have hbc := we2.1
  have f4' : eqE sM hm4 hm5 := f4'
  have o37' : gI hm5 0 37 = nI (f + b) := by rw [eqE_I f4' (by unfold sM; omega)]; exact n37C f3'
  have o43' : gI hm5 0 43 = nI (B + eb) := by rw [eqE_I f4' (by unfold sM; omega)]; exact v3'
  have o13' := (GS_0 g5).1
  have t54 := g5.1.2.2.2.1
  let hmD := sI hm5 27 (f + b) (nI (B + eb))
  have gD : GS T hc5 hmD t5 W Q0 := GS_f (agI_r _) (agI_sI (agI_r _) (by unfold kGM; omega)) g5
  have kD' : ∀ a j, ¬ a = 27 → gI hmD a j = gI hm5 a j := fun a j n => gI_o _ _ n
  have fD : eqE (lMs f (F0 + 130) B (BT + 420)) hm hmD := eqE_sI (eqE_trans fC (eqE_trans (eMs_l (by omega) f3') (sM_l f4'))) (by unfold lMs; omega)
  have mD : ∀ (Q : hp → Prop) (X : Int32 × hp → Prop), clsdT Q x1 x2 X → w_X12_expression hmD (fun h3 => w_X12_term_24 (fun h20 => w_X12_must h20 30 (fun h21 => X (nI (b + 1), h21))) h3) → X (nI b, hm) := fun Q X cl hq => mC Q X cl (re5 _ (by
    unfold w_X12_tellLaw_110
    exact rm5 _ (m_term o37' (by omega) o43' o13' hq)))
  have cD : ∀ Q X, clsd20 Q X → X (nI xx5, hc5) → X (nI x, hc) := fun Q X cl hq => cC Q X cl (rc5 Q X cl hq)
  have r8 : ∀ j, ¬ (j = 2 ∨ j = 4 ∨ j = 7) → gI hc5 8 j = gI hc4 8 j := fun j n => by
    rw [eqE_I f2' (by unfold s2; omega)]; show gI (sI (sI (lawPut (sI hc4 8 2 1) _ 3 0) 8 7 _) 8 4 266) 8 j = _
    rw [gI_k _ _ (by omega), gI_k _ _ (by omega), gI_lawPut (by omega) (by omega), gI_k _ _ (by omega)]
  have r82 : gI hc5 8 2 = 1 := by
    rw [eqE_I f2' (by unfold s2; omega)]; show gI (sI (sI (lawPut (sI hc4 8 2 1) _ 3 0) 8 7 _) 8 4 266) 8 2 = _
    rw [gI_k _ _ (by omega), gI_k _ _ (by omega), gI_lawPut (by omega) (by omega)]; exact gI_at _ _ _ _
  have r84 : gI hc5 8 4 = 266 := by rw [eqE_I f2' (by unfold s2; omega)]; exact gI_at _ _ _ _
  have r87 : gI hc5 8 7 = nI (eb + 2 * b) := by
    rw [eqE_I f2' (by unfold s2; omega)]; show gI (sI (sI (lawPut (sI hc4 8 2 1) _ 3 0) 8 7 _) 8 4 266) 8 7 = _
    rw [gI_k _ _ (by omega)]; exact gI_at _ _ _ _
  have r92 : gI hc5 9 2 = nI (eb + (2 * b + 1)) := by
    rw [eqE_I f2' (by unfold s2; omega)]; show gI (sI (sI (lawPut (sI hc4 8 2 1) _ 3 0) 8 7 _) 8 4 266) 9 2 = _
    rw [gI_o _ _ (by decide), gI_o _ _ (by decide)]; exact gI_at _ _ _ _
  have r85 : gI hc5 8 5 = nI (b + 1) := by rw [r8 5 (by omega), eqE_I f1' (by unfold eCs; omega)]; exact p85
  have fD5 : eqE lCs hc hc5 := eqE_trans fC3 (eqE_trans (eCs_l f1') (eqE_trans (pEs_l pe29_e) (s2_l f2')))
  have n37D : ∀ {h : hp}, eqE (eMs (B + eb) (BT + 420)) hmD h → gI h 0 37 = nI (f + b) := fun e => by rw [eqE_I e (by unfold eMs; omega), kD' _ _ (by omega)]; exact o37'
  have s10 : gI hc5 10 (eb + 2 * b) = 3 := by
    rw [eqE_I f2' (by unfold s2; omega)]; show gI (sI (sI (lawPut (sI hc4 8 2 1) _ 3 0) 8 7 _) 8 4 266) 10 _ = _
    rw [gI_o _ _ (by decide), gI_o _ _ (by decide)]; unfold lawPut; rw [gI_o _ _ (by decide), gI_o _ _ (by decide)]; exact gI_at _ _ _ _
  rcases L_Ec (κ := 30) (cx := 266) (mx := 30) (pe30 (2 * b + 1) (eb + 2 * b)) (md28 (f + b) B) hBT (by omega) (by omega) rfl rfl gD (x := xx5) l1' (by rw [r8 1 (by omega)]; exact u1') r82 (by rw [r8 6 (by omega)]; exact u2') (by rw [r8 9 (by omega)]; exact u4') r92 (Or.inl (by rw [r8 3 (by omega)]; exact u3')) r84 (by rw [kD' _ _ (by omega), eqE_I f4' (by unfold sM; omega)]; exact v2') (by rw [kD' _ _ (by omega)]; exact o43') (by omega) (by omega) (fun hc2 e1 hl h4 h9 h7 Q hq => c_part30 h4 h9 (by omega) (by rw [h7]; exact r87) (by omega) hq) (fun _ _ => pe30_e) (fun _ _ => md28_e) with ⟨hcX, hmX, ⟨F, P, cf, fm⟩, w1, w2, w3, w4⟩ | ⟨hcX, hmY, hmX, eX, ⟨F, P, cf, fm⟩, w1, w2, wz, w43, w5, w3, w4, w6⟩ | ⟨hc6, hm6, hc7, hm7, t7, xx7, ed, op3, g7, ⟨l1'', l2'', l3'', l4''⟩, ⟨u1'', u2'', u3'', u4'', u5'', u6''⟩, ⟨v1'', v2'', v3'', v4''⟩, we3, ⟨f1'', f2'', f3'', f4''⟩, rc7, re7, rm7⟩
  · obtain ⟨h3, y1, y2, y3, y4⟩ := m_t24F (f := f) (F1 := F0 + 130) (B := B) (B1 := BT + 420) fm (n37D w2) (by omega) (by omega) hF0
    obtain ⟨h4, z1, z2, z3⟩ := m_XTF (x1 := x1) (x2 := x2) (x3 := nI (b + 1)) (f := f) (F1 := F0 + 130) (B := B) (B1 := BT + 420) y1 y2 (by omega) (by omega) hF0
    exact Or.inl ⟨hcX, h4, ⟨F, P, cf, z1⟩, eqE_trans fD5 w1, eqE_trans fD (eqE_trans (eMs_l (by omega) w2) (eqE_trans y3 z2)), fun Q X cl hq => cD Q X cl (w3 Q X cl hq), fun Q X cl hq => mD Q X cl (w4 _ (y4 _ (m_mustF y1 (z3 Q X cl hq))))⟩
  · have n37' : gI hmX 0 37 = nI (f + b + 1) := by rw [eqE_I w5 (by unfold sM; omega)]; exact gI_at _ _ _ _
    obtain ⟨h4, z1, z2, z3⟩ := m_XTF (x1 := x1) (x2 := x2) (x3 := nI (b + 1)) (f := f) (F1 := F0 + 130) (B := B) (B1 := BT + 420) fm n37' (by omega) (by omega) hF0
    have fmd : eqE (lMs f (F0 + 130) B (BT + 420)) hmY (md28 (f + b) B eX hmY) := eqE_sI (eqE_sI (eqE_refl _) (by unfold lMs; omega)) (by unfold lMs; omega)
    exact Or.inl ⟨hcX, h4, ⟨F, P, cf, z1⟩, eqE_trans fD5 w1, eqE_trans fD (eqE_trans (eMs_l (by omega) w2) (eqE_trans fmd (eqE_trans (sM_l w5) z2))), fun Q X cl hq => cD Q X cl (w3 Q X cl hq), fun Q X cl hq => mD Q X cl (w4 _ (m_t24 (n37D w2) (by omega) w43 (w6 _ (z3 Q X cl hq))))⟩
  -- all of it
  right
  have hcd := we3.1
  have fmd : eqE (lMs f (F0 + 130) B (BT + 420)) hm6 (md28 (f + b) B ed hm6) := eqE_sI (eqE_sI (eqE_refl _) (by unfold lMs; omega)) (by unfold lMs; omega)
  let op' : Nat → Nat × Int32 := fun c => if c < st b then op c else if c < ea then op1 c else if c < eb then op2 c else op3 c
  let st' : Nat → Nat := fun k => if k = b + 1 then ed else st k
  let md' : Nat → Nat := fun k => if k = b then ea else md k
  let te' : Nat → Nat := fun k => if k = b then eb else te k
  have st'k : ∀ k, k ≤ b → st' k = st k := fun k hk => if_neg (by omega)
  have st'b : st' (b + 1) = ed := if_pos rfl
  have md'k : ∀ k, k < b → md' k = md k := fun k hk => if_neg (by omega)
  have md'b : md' b = ea := if_pos rfl
  have te'k : ∀ k, k < b → te' k = te k := fun k hk => if_neg (by omega)
  have te'b : te' b = eb := if_pos rfl
  have oo0 : ∀ c, c < st b → op' c = op c := fun c hc => if_pos hc
  have oo1 : ∀ c, st b ≤ c → c < ea → op' c = op1 c := fun c h1 h2 => by show (if _ then _ else _) = _; rw [if_neg (by omega), if_pos h2]
  have oo2 : ∀ c, ea ≤ c → c < eb → op' c = op2 c := fun c h1 h2 => by show (if _ then _ else _) = _; rw [if_neg (by omega), if_neg (by omega), if_pos h2]
  have oo3 : ∀ c, eb ≤ c → op' c = op3 c := fun c h1 => by show (if _ then _ else _) = _; rw [if_neg (by omega), if_neg (by omega), if_neg (by omega)]
  -- the class's cells, from stage to stage
  have K3 : ∀ a j, (a = 10 ∨ a = 11) → j < ed + (2 * b + 1) → ¬ (a = 11 ∧ j = eb + 2 * b) → gI hc7 a j = gI hc6 a j := fun a j ha hj n => by
    rw [eqE_I f2'' (by unfold s2; omega)]; show gI (sI (sI (sI (lawPut (sI hc6 8 2 1) _ 4 0) 11 _ _) 8 4 59) 8 3 1) a j = _
    rw [gI_o _ _ (by omega), gI_o _ _ (by omega), gI_sI, if_neg n]; unfold lawPut
    rw [gI_o _ _ (by omega), gI_sI, if_neg (by omega), gI_sI, if_neg (by omega), gI_o _ _ (by omega)]
  have K3s : gI hc7 10 (eb + 2 * b) = 3 := by rw [K3 10 _ (by omega) (by omega) (by omega), eqE_I f1'' (by unfold eCs; omega)]; exact s10
  have K3v : gI hc7 11 (eb + 2 * b) = nI (ed + 2 * b + 2) := by
    rw [eqE_I f2'' (by unfold s2; omega)]; show gI (sI (sI (sI (lawPut (sI hc6 8 2 1) _ 4 0) 11 _ _) 8 4 59) 8 3 1) 11 _ = _
    rw [gI_o _ _ (by omega), gI_o _ _ (by omega), gI_at]; congr 1
  have K4s : gI hc7 10 (ed + 2 * b + 1) = 4 := by
    rw [eqE_I f2'' (by unfold s2; omega)]; show gI (sI (sI (sI (lawPut (sI hc6 8 2 1) (ed + (2 * b + 1)) 4 0) 11 _ _) 8 4 59) 8 3 1) 10 _ = _
    rw [gI_o _ _ (by omega), gI_o _ _ (by omega), gI_o _ _ (by omega)]; unfold lawPut
    rw [gI_o _ _ (by omega), gI_o _ _ (by omega)]; exact gI_at _ _ _ _
  have K2 : ∀ a j, (a = 10 ∨ a = 11) → j < eb + 2 * b → gI hc7 a j = gI hc4 a j := fun a j ha hj => by
    rw [K3 a j ha (by omega) (by omega), eqE_I f1'' (by unfold eCs; omega), eqE_I f2' (by unfold s2; omega)]; show gI (sI (sI (lawPut (sI hc4 8 2 1) _ 3 0) 8 7 _) 8 4 266) a j = _
    rw [gI_o _ _ (by omega), gI_o _ _ (by omega)]; unfold lawPut
    rw [gI_o _ _ (by omega), gI_sI, if_neg (by omega), gI_sI, if_neg (by omega), gI_o _ _ (by omega)]
  have K1 : ∀ a j, (a = 10 ∨ a = 11) → j < ea + 2 * b → gI hc7 a j = gI hc2 a j := fun a j ha hj => by
    rw [K2 a j ha (by omega), eqE_I f1' (by unfold eCs; omega), eqE_I f2 (by unfold s2; omega)]; show gI (sI (sI hc2 8 2 1) 8 4 265) a j = _
    rw [gI_o _ _ (by omega), gI_o _ _ (by omega)]
  have K0 : ∀ a j, (a = 10 ∨ a = 11) → j < st b + 2 * b → gI hc7 a j = gI hc a j := fun a j ha hj => by
    rw [K1 a j ha (by omega), eqE_I f1 (by unfold eCs; omega), eqE_I e1 (by unfold s2; omega), kAo a j (by omega)]
  -- the reference's
  have M3 : ∀ a j, 24 ≤ a ∧ a ≤ 30 → ¬ (a = 28 ∧ j = f + b) → gI hm7 a j = gI hm6 a j := fun a j ha n => by
    rw [eqE_I f4'' (by unfold sM; omega)]; show gI (sI (sI hm6 28 _ _) 0 37 _) a j = _
    rw [gI_o _ _ (by omega), gI_sI, if_neg n]
  have M28 : gI hm7 28 (f + b) = nI (B + ed) := by
    rw [eqE_I f4'' (by unfold sM; omega)]; show gI (sI (sI hm6 28 _ _) 0 37 _) 28 _ = _
    rw [gI_o _ _ (by omega)]; exact gI_at _ _ _ _
  have M2 : ∀ a j, 24 ≤ a ∧ a ≤ 30 → ¬ ((a = 28 ∨ a = 27) ∧ j = f + b) → ((a = 29 ∨ a = 30) → j < B + eb) → gI hm7 a j = gI hm4 a j := fun a j ha n lo => by
    rw [M3 a j ha (by omega), eqE_I f3'' (by unfold eMs; omega)]; show gI (sI hm5 27 _ _) a j = _
    rw [gI_sI, if_neg (by omega), eqE_I f4' (by unfold sM; omega)]
  have M27 : gI hm7 27 (f + b) = nI (B + eb) := by rw [M3 27 _ (by omega) (by omega), eqE_I f3'' (by unfold eMs; omega)]; exact gI_at _ _ _ _
  have M1 : ∀ a j, 24 ≤ a ∧ a ≤ 30 → ¬ ((a = 28 ∨ a = 27 ∨ a = 26) ∧ j = f + b) → ((a = 29 ∨ a = 30) → j < B + ea) → gI hm7 a j = gI hm2 a j := fun a j ha n lo => by
    rw [M2 a j ha (by omega) (by omega), eqE_I f3' (by unfold eMs; omega)]; show gI (sI hm3 26 _ _) a j = _
    rw [gI_sI, if_neg (by omega), eqE_I f4 (by unfold sM; omega)]
  have M26 : gI hm7 26 (f + b) = nI (B + ea) := by rw [M2 26 _ (by omega) (by omega) (by omega), eqE_I f3' (by unfold eMs; omega)]; exact gI_at _ _ _ _
  have M0 : ∀ a j, 24 ≤ a ∧ a ≤ 30 → (a ≤ 28 → ¬ j = f + b) → ((a = 29 ∨ a = 30) → j < B + st b) → gI hm7 a j = gI hm a j := fun a j ha n lo => by
    rw [M1 a j ha (by omega) (by omega), eqE_I f3 (by unfold eMs; omega)]; show gI (sI (sI hm1 24 _ _) 25 _ _) a j = _
    rw [gI_sI, if_neg (by omega), gI_sI, if_neg (by omega), eqE_I e2 (by unfold sM; omega)]
  have M25 : gI hm7 25 (f + b) = nI (B + st b) := by rw [M1 25 _ (by omega) (by omega) (by omega), eqE_I f3 (by unfold eMs; omega)]; exact gI_at _ _ _ _
  have M24 : gI hm7 24 (f + b) = 1 := by
    rw [M1 24 _ (by omega) (by omega) (by omega), eqE_I f3 (by unfold eMs; omega)]; show gI (sI (sI hm1 24 _ _) 25 _ _) 24 _ = _
    rw [gI_o _ _ (by omega), gI_at]; decide
  have dc' := LDc_f dw K0 dc
  have dm' := LDm_f (h1 := hm7) (fun a j q => M0 a j (by omega) (by omega) (by omega)) dm
  refine ⟨hc7, hm7, t7, xx7, op', st', md', te', ⟨g7, ⟨l1'', by omega, b3, by omega, by rw [st'b]; omega, by rw [st'b]; omega⟩, ⟨?_, ?_, ?_, ?_, ?_, ?_, ?_, ?_⟩, ⟨?_, ?_, ?_⟩, ?_, ⟨?_, ?_⟩, ?_, ?_⟩, by omega, eqE_trans fD5 (eqE_trans (eCs_l f1'') (eqE_trans (pEs_l pe30_e) (s2_l f2''))), eqE_trans fD (eqE_trans (eMs_l (by omega) f3'') (eqE_trans fmd (sM_l f4''))), fun Q X cl hq => cD Q X cl (rc7 Q X cl hq), fun Q X cl hq => mD Q X cl (re7 _ (m_t24 (n37D f3'') (by omega) v3'' (rm7 _ hq)))⟩
  · rw [eqE_I f2'' (by unfold s2; omega)]; show gI (sI (sI (sI (lawPut (sI hc6 8 2 1) _ 4 0) 11 _ _) 8 4 59) 8 3 1) 8 1 = _
    rw [gI_k _ _ (by omega), gI_k _ _ (by omega), gI_o _ _ (by omega), gI_lawPut (by omega) (by omega), gI_k _ _ (by omega)]; exact u1''
  · rw [eqE_I f2'' (by unfold s2; omega)]; show gI (sI (sI (sI (lawPut (sI hc6 8 2 1) _ 4 0) 11 _ _) 8 4 59) 8 3 1) 8 2 = _
    rw [gI_k _ _ (by omega), gI_k _ _ (by omega), gI_o _ _ (by omega), gI_lawPut (by omega) (by omega)]; exact gI_at _ _ _ _
  · rw [eqE_I f2'' (by unfold s2; omega)]; exact gI_at _ _ _ _
  · rw [eqE_I f2'' (by unfold s2; omega)]; show gI (sI (sI (sI (lawPut (sI hc6 8 2 1) _ 4 0) 11 _ _) 8 4 59) 8 3 1) 8 4 = _
    rw [gI_k _ _ (by omega)]; exact gI_at _ _ _ _
  · rw [eqE_I f2'' (by unfold s2; omega)]; show gI (sI (sI (sI (lawPut (sI hc6 8 2 1) _ 4 0) 11 _ _) 8 4 59) 8 3 1) 8 5 = _
    rw [gI_k _ _ (by omega), gI_k _ _ (by omega), gI_o _ _ (by omega), gI_lawPut (by omega) (by omega), gI_k _ _ (by omega), eqE_I f1'' (by unfold eCs; omega)]; exact r85
  · rw [eqE_I f2'' (by unfold s2; omega)]; show gI (sI (sI (sI (lawPut (sI hc6 8 2 1) _ 4 0) 11 _ _) 8 4 59) 8 3 1) 8 6 = _
    rw [gI_k _ _ (by omega), gI_k _ _ (by omega), gI_o _ _ (by omega), gI_lawPut (by omega) (by omega), gI_k _ _ (by omega)]; exact u2''
  · rw [eqE_I f2'' (by unfold s2; omega)]; show gI (sI (sI (sI (lawPut (sI hc6 8 2 1) _ 4 0) 11 _ _) 8 4 59) 8 3 1) 8 9 = _
    rw [gI_k _ _ (by omega), gI_k _ _ (by omega), gI_o _ _ (by omega), gI_lawPut (by omega) (by omega), gI_k _ _ (by omega)]; exact u4''
  · rw [eqE_I f2'' (by unfold s2; omega), st'b]; show gI (sI (sI (sI (lawPut (sI hc6 8 2 1) (ed + (2 * b + 1)) 4 0) 11 _ _) 8 4 59) 8 3 1) 9 2 = _
    rw [gI_o _ _ (by omega), gI_o _ _ (by omega), gI_o _ _ (by omega)]
    show nI (ed + (2 * b + 1) + 1) = _
    congr 1
  · rw [eqE_I f4'' (by unfold sM; omega)]; show gI (sI (sI hm6 28 _ _) 0 37 _) 0 12 = _
    rw [gI_k _ _ (by omega), gI_o _ _ (by omega)]; exact v2''
  · rw [eqE_I f4'' (by unfold sM; omega)]; exact gI_at _ _ _ _
  · rw [eqE_I f4'' (by unfold sM; omega), st'b]; show gI (sI (sI hm6 28 _ _) 0 37 _) 0 43 = _
    rw [gI_k _ _ (by omega), gI_o _ _ (by omega)]; exact v3''
  · intro k hk
    by_cases kb : k = b
    · subst kb
      rw [te'b, st'b, st'k k (Nat.le_refl _)]
      refine ⟨fun c h1 h2 => ?_, K3s, K3v, fun c h1 h2 => ?_, K4s⟩
      · by_cases z : c < ea
        · rw [oo1 c h1 z]; exact isStep_f (K1 10 _ (by omega) (by omega)) (K1 11 _ (by omega) (by omega)) (u6 c h1 z)
        · rw [oo2 c (by omega) h2]; exact isStep_f (K2 10 _ (by omega) (by omega)) (K2 11 _ (by omega) (by omega)) (u6' c (by omega) h2)
      · rw [oo3 c h1, Nat.add_assoc]; exact isStep_f (K3 10 _ (by omega) (by omega) (by omega)) (K3 11 _ (by omega) (by omega) (by omega)) (u6'' c h1 h2)
    · have kb' : k < b := by omega
      obtain ⟨d1, d2, d3, d4, d5⟩ := dc' k kb'
      obtain ⟨y1, y2, y3, y4⟩ := LDw_k dw kb'
      rw [te'k k kb', st'k k (by omega), st'k (k + 1) (by omega)]
      exact ⟨fun c h1 h2 => by rw [oo0 c (by omega)]; exact d1 c h1 h2, d2, d3, fun c h1 h2 => by rw [oo0 c (by omega)]; exact d4 c h1 h2, d5⟩
  · intro k hk
    by_cases kb : k = b
    · subst kb
      rw [te'b, st'b, md'b, st'k k (Nat.le_refl _)]
      exact ⟨M24, M25, M26, M27, M28⟩
    · rw [te'k k (by omega), st'k k (by omega), st'k (k + 1) (by omega), md'k k (by omega)]
      exact dm'.1 k (by omega)
  · intro c hc'
    rw [st'b] at hc'
    by_cases z0 : c < st b
    · rw [oo0 c z0]; exact dm'.2 c z0
    by_cases z1 : c < ea
    · rw [oo1 c (by omega) z1, M1 29 _ (by omega) (by omega) (by omega), M1 30 _ (by omega) (by omega) (by omega)]; exact v4 c (by omega) z1
    by_cases z2 : c < eb
    · rw [oo2 c (by omega) z2, M2 29 _ (by omega) (by omega) (by omega), M2 30 _ (by omega) (by omega) (by omega)]; exact v4' c (by omega) z2
    · rw [oo3 c (by omega), M3 29 _ (by omega) (by omega), M3 30 _ (by omega) (by omega)]; exact v4'' c (by omega) hc'
  · rw [st'k 0 (by omega)]; exact dw.1
  · intro k hk
    by_cases kb : k = b
    · subst kb
      rw [te'b, st'b, md'b, st'k k (Nat.le_refl _)]
      exact ⟨wfE_cg (fun c h1 h2 => oo1 c h1 h2) we1, wfE_cg (fun c h1 h2 => oo2 c h1 h2) we2, wfE_cg (fun c h1 h2 => oo3 c h1) we3⟩
    · have kb' : k < b := by omega
      obtain ⟨y1, y2, y3, y4⟩ := LDw_k dw kb'
      obtain ⟨w1, w2, w3⟩ := dw.2 k kb'
      rw [te'k k kb', st'k k (by omega), st'k (k + 1) (by omega), md'k k kb']
      exact ⟨wfE_cg (fun c h1 h2 => oo0 c (by omega)) w1, wfE_cg (fun c h1 h2 => oo0 c (by omega)) w2, wfE_cg (fun c h1 h2 => oo0 c (by omega)) w3⟩
def lMz (f F1 B B1 z : Nat) (a j : Nat) : Prop := lMs f F1 B B1 a j ∨ ((a = 22 ∨ a = 23) ∧ j = z)
theorem lMs_z {f F1 B B1 z : Nat} {h h1 : hp} (e : eqE (lMs f F1 B B1) h h1) : eqE (lMz f F1 B B1 z) h h1 := eqE_w (fun a j q => Or.inl q) e
/-- behind a law -/
def LGood (T : Tb) (hc hm hc1 hm1 : hp) (t t1 W : Nat) (Q0 : Int32) (s i f F0 B BT : Nat) (L : Lw) : Prop :=
  GS T hc1 hm1 t1 W Q0 ∧ t < t1 ∧ wfL L ∧ cLaw 9 hc1 L ∧ mLawX (2 * s + i) hm1 L f B ∧ gI hm1 0 12 = 0 ∧ gI hm1 0 37 = nI (f + Lnb L + 1) ∧ gI hm1 0 43 = nI (B + Lst L (Lnb L + 1)) ∧ 4 * (f + Lnb L + 1) ≤ 4 * F0 + t1 + 1 ∧ B + Lst L (Lnb L + 1) ≤ BT + t1 ∧ eqE lCs hc hc1 ∧ eqE (lMz f (F0 + 130) B (BT + 420) (2 * s + i)) hm hm1
/-- the last term -/
theorem L_last {T : Tb} {W f F0 B BT s i : Nat} {Q0 : Int32} (hBT : BT + 420 ≤ 840) (hF0 : F0 + 130 ≤ 260) (hs : s < 2) (hi : i < 2) {t x b : Nat} {hc hm : hp} {op : Nat → Nat × Int32} {st md te : Nat → Nat} (hL : LSt T hc hm t W Q0 x b f F0 B BT op st md te) (m19 : gI hm 0 19 = nI s) (hk : ¬ tbK T t = 28) :
    (∃ hc1 hm1, BS hc1 hm1 ∧ eqE lCs hc hc1 ∧ eqE (lMz f (F0 + 130) B (BT + 420) (2 * s + i)) hm hm1 ∧ (∀ Q X, clsd20 Q X → Q 0 hc1 → X (nI x, hc)) ∧ (∀ Q X, clsdT Q (nI i) (nI f) X → Q hm1 → X (nI b, hm))) ∨
    (∃ hc1 hm1 t1 L, LGood T hc hm hc1 hm1 t t1 W Q0 s i f F0 B BT L ∧ (∀ Q X, clsd20 Q X → Q 1 hc1 → X (nI x, hc)) ∧ (∀ Q X, clsdT Q (nI i) (nI f) X → Q hm1 → X (nI b, hm))) := by
  obtain ⟨g, ⟨b1, b2, b3, b4, b5, b6⟩, ⟨c1, c2, c3, c4, c5, c6, c9, c92⟩, ⟨m12, m37, m43⟩, dc, dm, dw⟩ := hL
  have t4 := g.1.2.2.2.1
  have e13 := (GS_0 g).1
  let hmA := sI (sI hm 24 (f + b) (jz 0)) 27 (f + b) (nI (B + st b))
  have kA : ∀ a j, ¬ ((a = 24 ∨ a = 27) ∧ j = f + b) → gI hmA a j = gI hm a j := fun a j n => by
    show gI (sI (sI hm 24 _ _) 27 _ _) a j = _
    rw [gI_sI, if_neg (by omega), gI_sI, if_neg (by omega)]
  have gA : GS T hc hmA t W Q0 := GS_f (agI_r _) (agI_sI (agI_sI (agI_r _) (by unfold kGM; omega)) (by unfold kGM; omega)) g
  have fA : eqE (lMs f (F0 + 130) B (BT + 420)) hm hmA := eqE_sI (eqE_sI (eqE_refl _) (by unfold lMs; omega)) (by unfold lMs; omega)
  have mA : ∀ (Q : hp → Prop) (X : Int32 × hp → Prop), clsdT Q (nI i) (nI f) X → w_X12_expression hmA (fun h3 => w_X12_term_24 (fun h23 => w_X12_must h23 4 (fun h24 => ((gI h24 0 13) ≤ 0 → (vp_in ((2 * (gI h24 0 19)) + (nI i)) 4 ∧ ∀ h26, h26 = sI h24 22 (ix ((2 * (gI h24 0 19)) + (nI i))) (nI f) → (vp_in ((2 * (gI h26 0 19)) + (nI i)) 4 ∧ ∀ h27, h27 = sI h26 23 (ix ((2 * (gI h26 0 19)) + (nI i))) (gI h26 0 37) → (Q h27)))) ∧ (¬ ((gI h24 0 13) ≤ 0) → (Q h24)))) h3) → X (nI b, hm) := fun Q X cl hq => cl _ (by
    show w_X12_tellLaw_b12 Q (nI i) (nI f) X (nI b) hm
    unfold w_X12_tellLaw_b12
    refine ⟨fun q => absurd e13 q, fun _ => isH (x := 28) (GS_m g) (by omega) (fun q => absurd q hk) (fun _ => ⟨fun _ => ?_, fun q => absurd rfl q⟩)⟩
    unfold w_X12_tellLaw_129
    rw [m37]
    refine ⟨in_n (by omega) (by omega), fun h22 e22 => ?_⟩
    rw [ix_n (n := f + b) (by omega)] at e22
    subst e22
    exact m_term (by rw [gI_o _ _ (by decide)]; exact m37) (by omega) (by rw [gI_o _ _ (by decide)]; exact m43) (by rw [gI_o _ _ (by decide)]; exact e13) hq)
  have n37 : ∀ {h : hp}, eqE (eMs (B + st b) (BT + 420)) hmA h → gI h 0 37 = nI (f + b) := fun e => by rw [eqE_I e (by unfold eMs; omega), kA _ _ (by omega)]; exact m37
  rcases L_Ec (κ := 4) (cx := 59) (mx := 4) (pe4 (2 * b)) (md28 (f + b) B) hBT (by omega) (by omega) rfl rfl gA (x := x) b1 c1 c2 c6 c9 c92 (Or.inr hk) c4 (by rw [kA _ _ (by omega)]; exact m12) (by rw [kA _ _ (by omega)]; exact m43) (by omega) (by omega) (fun hc2 e1 hl h4 h9 h7 Q hq => c_part4 h4 h9 (by omega) hq) (fun _ _ => pe4_e) (fun _ _ => md28_e) with ⟨hcX, hmX, ⟨F, P, cf, fm⟩, w1, w2, w3, w4⟩ | ⟨hcX, hmY, hmX, eX, ⟨F, P, cf, fm⟩, w1, w2, wz, w43, w5, w3, w4, w6⟩ | ⟨hc2, hm2, hc3, hm3, t3, xx3, ea, op1, g3, ⟨l1, l2, l3, l4⟩, ⟨u1, u2, u3, u4, u5, u6⟩, ⟨v1, v2, v3, v4⟩, we1, ⟨f1, f2, f3, f4⟩, rc3, re3, rm3⟩
  · obtain ⟨h3, y1, y2, y3, y4⟩ := m_t24F (f := f) (F1 := F0 + 130) (B := B) (B1 := BT + 420) fm (n37 w2) (by omega) (by omega) hF0
    exact Or.inl ⟨hcX, h3, ⟨F, P, cf, y1⟩, w1, lMs_z (eqE_trans fA (eqE_trans (eMs_l (by omega) w2) y3)), w3, fun Q X cl hq => mA Q X cl (w4 _ (y4 _ (m_129bF y1 hq)))⟩
  · have fmd : eqE (lMs f (F0 + 130) B (BT + 420)) hmY (md28 (f + b) B eX hmY) := eqE_sI (eqE_sI (eqE_refl _) (by unfold lMs; omega)) (by unfold lMs; omega)
    exact Or.inl ⟨hcX, hmX, ⟨F, P, cf, fm⟩, w1, lMs_z (eqE_trans fA (eqE_trans (eMs_l (by omega) w2) (eqE_trans fmd (sM_l w5)))), w3, fun Q X cl hq => mA Q X cl (w4 _ (m_t24 (n37 w2) (by omega) w43 (w6 _ ⟨fun q => absurd q (FM_ne fm).2.1, fun _ => hq⟩)))⟩
  right
  have hab := we1.1
  have fmd : eqE (lMs f (F0 + 130) B (BT + 420)) hm2 (md28 (f + b) B ea hm2) := eqE_sI (eqE_sI (eqE_refl _) (by unfold lMs; omega)) (by unfold lMs; omega)
  let st' : Nat → Nat := fun k => if k = b + 1 then ea else st k
  let op' : Nat → Nat × Int32 := fun c => if c < st b then op c else op1 c
  have st'k : ∀ k, k ≤ b → st' k = st k := fun k hk => if_neg (by omega)
  have st'b : st' (b + 1) = ea := if_pos rfl
  have oo0 : ∀ c, c < st b → op' c = op c := fun c hc => if_pos hc
  have oo1 : ∀ c, st b ≤ c → op' c = op1 c := fun c h1 => if_neg (by omega)
  have K1 : ∀ a j, (a = 10 ∨ a = 11) → j < ea + 2 * b → gI hc3 a j = gI hc2 a j := fun a j ha hj => by
    rw [eqE_I f2 (by unfold s2; omega)]; show gI (sI (lawPut (sI hc2 8 2 1) _ 4 0) 8 1 1) a j = _
    rw [gI_o _ _ (by omega)]; unfold lawPut
    rw [gI_o _ _ (by omega), gI_sI, if_neg (by omega), gI_sI, if_neg (by omega), gI_o _ _ (by omega)]
  have K4s : gI hc3 10 (ea + 2 * b) = 4 := by
    rw [eqE_I f2 (by unfold s2; omega)]; show gI (sI (lawPut (sI hc2 8 2 1) (ea + 2 * b) 4 0) 8 1 1) 10 _ = _
    rw [gI_o _ _ (by omega)]; unfold lawPut
    rw [gI_o _ _ (by omega), gI_o _ _ (by omega)]; exact gI_at _ _ _ _
  have K92 : gI hc3 9 2 = nI (ea + 2 * b + 1) := by
    rw [eqE_I f2 (by unfold s2; omega)]; show gI (sI (lawPut (sI hc2 8 2 1) (ea + 2 * b) 4 0) 8 1 1) 9 2 = _
    rw [gI_o _ _ (by omega)]; exact gI_at _ _ _ _
  have K81 : gI hc3 8 1 = 1 := by rw [eqE_I f2 (by unfold s2; omega)]; exact gI_at _ _ _ _
  have K0 : ∀ a j, (a = 10 ∨ a = 11) → j < st b + 2 * b → gI hc3 a j = gI hc a j := fun a j ha hj => by
    rw [K1 a j ha (by omega), eqE_I f1 (by unfold eCs; omega)]
  let hmZ := sI (sI hm3 22 (2 * s + i) (nI f)) 23 (2 * s + i) (nI (f + b + 1))
  have kZ : ∀ a j, ¬ (a = 22 ∨ a = 23) → gI hmZ a j = gI hm3 a j := fun a j n => by
    show gI (sI (sI hm3 22 _ _) 23 _ _) a j = _
    rw [gI_o _ _ (by omega), gI_o _ _ (by omega)]
  have z37 : gI hm3 0 37 = nI (f + b + 1) := by rw [eqE_I f4 (by unfold sM; omega)]; exact gI_at _ _ _ _
  have z19 : gI hm3 0 19 = nI s := by
    rw [eqE_I f4 (by unfold sM; omega)]; show gI (sI (sI hm2 28 _ _) 0 37 _) 0 19 = _
    rw [gI_k _ _ (by omega), gI_o _ _ (by omega), eqE_I f3 (by unfold eMs; omega), kA _ _ (by omega)]; exact m19
  have M3 : ∀ a j, 24 ≤ a ∧ a ≤ 30 → ¬ (a = 28 ∧ j = f + b) → gI hmZ a j = gI hm2 a j := fun a j ha n => by
    rw [kZ a j (by omega), eqE_I f4 (by unfold sM; omega)]; show gI (sI (sI hm2 28 _ _) 0 37 _) a j = _
    rw [gI_o _ _ (by omega), gI_sI, if_neg n]
  have M28 : gI hmZ 28 (f + b) = nI (B + ea) := by
    rw [kZ _ _ (by omega), eqE_I f4 (by unfold sM; omega)]; show gI (sI (sI hm2 28 _ _) 0 37 _) 28 _ = _
    rw [gI_o _ _ (by omega)]; exact gI_at _ _ _ _
  have M27 : gI hmZ 27 (f + b) = nI (B + st b) := by rw [M3 27 _ (by omega) (by omega), eqE_I f3 (by unfold eMs; omega)]; exact gI_at _ _ _ _
  have M24 : gI hmZ 24 (f + b) = 0 := by
    rw [M3 24 _ (by omega) (by omega), eqE_I f3 (by unfold eMs; omega)]; show gI (sI (sI hm 24 _ _) 27 _ _) 24 _ = _
    rw [gI_o _ _ (by omega), gI_at]; decide
  have M0 : ∀ a j, 24 ≤ a ∧ a ≤ 30 → (a ≤ 28 → ¬ j = f + b) → ((a = 29 ∨ a = 30) → j < B + st b) → gI hmZ a j = gI hm a j := fun a j ha n lo => by
    rw [M3 a j ha (by omega), eqE_I f3 (by unfold eMs; omega), kA a j (by omega)]
  have dc' := LDc_f dw K0 dc
  have dm' := LDm_f (h1 := hmZ) (fun a j q => M0 a j (by omega) (by omega) (by omega)) dm
  have t34 := g3.1.2.2.2.1
  have gZ : GS T hc3 hmZ t3 W Q0 := GS_f (agI_r _) (agI_sI (agI_sI (agI_r _) (by unfold kGM; omega)) (by unfold kGM; omega)) g3
  let L : Lw := (op', b, st', md, te)
  have fin : LGood T hc hm hc3 hmZ t t3 W Q0 s i f F0 B BT L := by
    refine ⟨gZ, by omega, ⟨b2, ?_, fun k hk => ?_, ?_, ?_, ?_⟩, ⟨?_, fun k hk => ?_, fun c h1 h2 => ?_, ?_⟩, ⟨?_, ?_, ?_, ?_, fun k hk => ?_, ⟨M24, ?_, ?_⟩, fun c hc' => ?_⟩, ?_, ?_, ?_, ?_, ?_, ?_, ?_⟩
    · show st' 0 = 0; rw [st'k 0 (by omega)]; exact dw.1
    · have hk : k < b := hk
      obtain ⟨y1, y2, y3, y4⟩ := LDw_k dw hk
      obtain ⟨w1, w2, w3⟩ := dw.2 k hk
      show wfE op' (st' k) (md k) ∧ wfE op' (md k) (te k) ∧ wfE op' (te k) (st' (k + 1))
      rw [st'k k (by omega), st'k (k + 1) (by omega)]
      exact ⟨wfE_cg (fun c h1 h2 => oo0 c (by omega)) w1, wfE_cg (fun c h1 h2 => oo0 c (by omega)) w2, wfE_cg (fun c h1 h2 => oo0 c (by omega)) w3⟩
    · show wfE op' (st' b) (st' (b + 1)); rw [st'k b (Nat.le_refl _), st'b]; exact wfE_cg (fun c h1 h2 => oo1 c h1) we1
    · show st' (b + 1) + 2 * b + 1 ≤ 402; rw [st'b]; omega
    · show st' (b + 1) ≤ 400; rw [st'b]; omega
    · show gI hc3 9 2 = nI (st' (b + 1) + 2 * b + 1); rw [st'b]; exact K92
    · have hk : k < b := hk
      obtain ⟨d1, d2, d3, d4, d5⟩ := dc' k hk
      obtain ⟨y1, y2, y3, y4⟩ := LDw_k dw hk
      show (∀ c, st' k ≤ c → c < te k → isStep 9 hc3 (c + 2 * k) (op' c)) ∧ gI hc3 10 (te k + 2 * k) = 3 ∧ gI hc3 11 (te k + 2 * k) = nI (st' (k + 1) + 2 * k + 2) ∧ (∀ c, te k ≤ c → c < st' (k + 1) → isStep 9 hc3 (c + 2 * k + 1) (op' c)) ∧ gI hc3 10 (st' (k + 1) + 2 * k + 1) = 4
      rw [st'k k (by omega), st'k (k + 1) (by omega)]
      exact ⟨fun c h1 h2 => by rw [oo0 c (by omega)]; exact d1 c h1 h2, d2, d3, fun c h1 h2 => by rw [oo0 c (by omega)]; exact d4 c h1 h2, d5⟩
    · have h1 : st' b ≤ c := h1
      have h2 : c < st' (b + 1) := h2
      rw [st'k b (Nat.le_refl _)] at h1
      rw [st'b] at h2
      show isStep 9 hc3 (c + 2 * b) (op' c)
      rw [oo1 c h1]; exact isStep_f (K1 10 _ (by omega) (by omega)) (K1 11 _ (by omega) (by omega)) (u6 c h1 h2)
    · show gI hc3 10 (st' (b + 1) + 2 * b) = 4; rw [st'b]; exact K4s
    · show gI (sI (sI hm3 22 _ _) 23 _ _) 22 _ = _; rw [gI_o _ _ (by decide)]; exact gI_at _ _ _ _
    · exact gI_at _ _ _ _
    · show f + b + 1 ≤ 260; omega
    · show B + st' (b + 1) ≤ 840; rw [st'b]; omega
    · have hk : k < b := hk
      show gI hmZ 24 (f + k) = 1 ∧ gI hmZ 25 (f + k) = nI (B + st' k) ∧ gI hmZ 26 (f + k) = nI (B + md k) ∧ gI hmZ 27 (f + k) = nI (B + te k) ∧ gI hmZ 28 (f + k) = nI (B + st' (k + 1))
      rw [st'k k (by omega), st'k (k + 1) (by omega)]
      exact dm'.1 k hk
    · show gI hmZ 27 (f + b) = nI (B + st' b); rw [st'k b (Nat.le_refl _)]; exact M27
    · show gI hmZ 28 (f + b) = nI (B + st' (b + 1)); rw [st'b]; exact M28
    · have hc' : c < st' (b + 1) := hc'
      rw [st'b] at hc'
      show gI hmZ 29 (B + c) = nI (op' c).1 ∧ ((op' c).1 < 2 → gI hmZ 30 (B + c) = (op' c).2)
      by_cases z0 : c < st b
      · rw [oo0 c z0]; exact dm'.2 c z0
      · rw [oo1 c (by omega), M3 29 _ (by omega) (by omega), M3 30 _ (by omega) (by omega)]; exact v4 c (by omega) hc'
    · rw [kZ _ _ (by omega), eqE_I f4 (by unfold sM; omega)]; show gI (sI (sI hm2 28 _ _) 0 37 _) 0 12 = _
      rw [gI_k _ _ (by omega), gI_o _ _ (by omega)]; exact v2
    · rw [kZ _ _ (by omega)]; exact z37
    · show _ = nI (B + st' (b + 1)); rw [st'b, kZ _ _ (by omega), eqE_I f4 (by unfold sM; omega)]; show gI (sI (sI hm2 28 _ _) 0 37 _) 0 43 = _
      rw [gI_k _ _ (by omega), gI_o _ _ (by omega)]; exact v3
    · show 4 * (f + b + 1) ≤ 4 * F0 + t3 + 1; omega
    · show B + st' (b + 1) ≤ BT + t3; rw [st'b]; omega
    · exact eqE_trans (eCs_l f1) (eqE_trans (pEs_l pe4_e) (s2_l f2))
    · exact eqE_sI (eqE_sI (lMs_z (eqE_trans fA (eqE_trans (eMs_l (by omega) f3) (eqE_trans fmd (sM_l f4))))) (by unfold lMz; omega)) (by unfold lMz; omega)
  refine ⟨hc3, hmZ, t3, L, fin, fun Q X cl hq => rc3 Q X cl (cl _ ?_), fun Q X cl hq => mA Q X cl (re3 _ (m_t24 (n37 f3) (by omega) v3 (rm3 _ ⟨fun _ => ?_, fun q => absurd (by rw [(GS_0 g3).1]; decide) q⟩)))⟩
  · show w_X5_readLaw_b20 Q X (nI xx3) hc3
    unfold w_X5_readLaw_b20
    exact ⟨fun _ => hq, fun _ => ⟨fun _ => hq, fun q => absurd (by rw [← K81, q]) (by decide : ¬ (1 : Int32) = 0)⟩⟩
  · have ei : 2 * nI s + nI i = nI (2 * s + i) := by rw [show (2 : Int32) = nI 2 from rfl, nI_mul (by omega) (by omega) (by omega), nI_add]
    rw [z19, ei]
    refine ⟨in_n (by omega) (by omega), fun h26 e26 => ?_⟩
    rw [ix_n (n := 2 * s + i) (by omega)] at e26
    subst e26
    rw [gI_o _ _ (by decide), z19, ei, gI_o _ _ (by decide), z37]
    refine ⟨in_n (by omega) (by omega), fun h27 e27 => ?_⟩
    rw [ix_n (n := 2 * s + i) (by omega)] at e27
    subst e27
    exact hq
/-- from a branch on -/
theorem L_from {T : Tb} {W f F0 B BT s i : Nat} {Q0 : Int32} (hBT : BT + 420 ≤ 840) (hF0 : F0 + 130 ≤ 260) (hs : s < 2) (hi : i < 2) : ∀ (n : Nat) {t x b : Nat} {hc hm : hp} {op : Nat → Nat × Int32} {st md te : Nat → Nat}, n + b = 4 → LSt T hc hm t W Q0 x b f F0 B BT op st md te → gI hm 0 19 = nI s →
    (∃ hc1 hm1, BS hc1 hm1 ∧ eqE lCs hc hc1 ∧ eqE (lMz f (F0 + 130) B (BT + 420) (2 * s + i)) hm hm1 ∧ (∀ Q X, clsd20 Q X → Q 0 hc1 → X (nI x, hc)) ∧ (∀ Q X, clsdT Q (nI i) (nI f) X → Q hm1 → X (nI b, hm))) ∨
    (∃ hc1 hm1 t1 L, LGood T hc hm hc1 hm1 t t1 W Q0 s i f F0 B BT L ∧ (∀ Q X, clsd20 Q X → Q 1 hc1 → X (nI x, hc)) ∧ (∀ Q X, clsdT Q (nI i) (nI f) X → Q hm1 → X (nI b, hm))) := by
  intro n
  induction n with
  | zero =>
    intro t x b hc hm op st md te hn hL m19
    by_cases hk : tbK T t = 28
    · left
      obtain ⟨g, ⟨b1, b2, b3, b4, b5, b6⟩, ⟨c1, c2, c3, c4, c5, c6, c9, c92⟩, ⟨m12, m37, m43⟩, dc, dm, dw⟩ := hL
      have eb : b = 4 := by omega
      subst eb
      have gN : GS T (sI hc 8 3 0) hm t W Q0 := GS_f (agI_sI (agI_r _) (by unfold kGC; omega)) (agI_r _) g
      have fm := FM_st (F := 2) (GS_m g) (by omega) (by omega)
      refine ⟨cSt T (sI hc 8 3 0) 2 t, mSt T hm 2 t, ⟨2, _, CF_st, fm⟩, eqE_trans (eqE_sI (eqE_refl _) (by unfold lCs; omega)) (s2_l cSt_e), lMs_z (sM_l mSt_e), fun Q X cl hq => c_enter1 g b1 c1 c2 cl (fun v _ => ?_), fun Q X cl hq => cl _ ?_⟩
      · rw [hk]
        unfold w_X3_unit w_X3_unit_0
        refine ⟨fun q => absurd rfl q, fun _ => ⟨fun q => absurd (by rw [← c3, q]) (by decide : ¬ (1 : Int32) = 0), fun _ h3 e3 => ⟨fun q => absurd q (by decide), fun _ => ?_⟩⟩⟩
        subst e3
        unfold w_X3_branchBegins w_X3_branchBegins_0
        have e5 : gI (sI hc 8 3 0) 8 5 = nI 4 := by rw [gI_k _ _ (by decide)]; exact c5
        rw [e5]
        exact ⟨fun q => absurd rfl q, fun _ => c_78stop (F := 2) gN (Or.inr rfl) hq⟩
      · show w_X12_tellLaw_b12 Q (nI i) (nI f) X (nI 4) hm
        unfold w_X12_tellLaw_b12
        refine ⟨fun q => absurd (GS_0 g).1 q, fun _ => isH (x := 28) (GS_m g) (by omega) (fun _ => ⟨fun q => absurd q (by decide), fun _ => ⟨fun q => absurd rfl q, fun _ => failH (F := 2) (GS_m g) ?_⟩⟩) (fun q => absurd hk q)⟩
        unfold w_X12_tellLaw_38
        exact ⟨fun q => absurd q (FM_ne fm).2.1, fun _ => hq⟩
    · exact L_last hBT hF0 hs hi hL m19 hk
  | succ n ih =>
    intro t x b hc hm op st md te hn hL m19
    by_cases hk : tbK T t = 28
    · rcases L_branch hBT hF0 (nI i) (nI f) hL (by omega) hk with ⟨hc1, hm1, b1, e1, e2, r1, r2⟩ | ⟨hc1, hm1, t1, x', op', st', md', te', hL1, ht, e1, e2, r1, r2⟩
      · exact Or.inl ⟨hc1, hm1, b1, e1, lMs_z e2, r1, r2⟩
      · have m19' : gI hm1 0 19 = nI s := by rw [eqE_I e2 (by unfold lMs; omega)]; exact m19
        rcases ih (by omega) hL1 m19' with ⟨hc2, hm2, b1, u1, u2, s1, s2⟩ | ⟨hc2, hm2, t2, L, ⟨q1, q2, q3, q4, q5, q6, q7, q8, q9, q10, q11, q12⟩, s1, s2⟩
        · exact Or.inl ⟨hc2, hm2, b1, eqE_trans e1 u1, eqE_trans (lMs_z e2) u2, fun Q X cl hq => r1 Q X cl (s1 Q X cl hq), fun Q X cl hq => r2 Q X cl (s2 Q X cl hq)⟩
        · exact Or.inr ⟨hc2, hm2, t2, L, ⟨q1, by omega, q3, q4, q5, q6, q7, q8, q9, q10, eqE_trans e1 q11, eqE_trans (lMs_z e2) q12⟩, fun Q X cl hq => r1 Q X cl (s1 Q X cl hq), fun Q X cl hq => r2 Q X cl (s2 Q X cl hq)⟩
    · exact L_last hBT hF0 hs hi hL m19 hk
/-- a law, from its = on -/
theorem L_law {T : Tb} {hc hm : hp} {t W f F0 B BT s i : Nat} {Q0 : Int32} (hBT : BT + 420 ≤ 840) (hF0 : F0 + 130 ≤ 260) (hs : s < 2) (hi : i < 2) (g : GS T hc hm t W Q0) (m12 : gI hm 0 12 = 0) (m37 : gI hm 0 37 = nI f) (m43 : gI hm 0 43 = nI B) (m19 : gI hm 0 19 = nI s) (b1 : F0 ≤ f) (b2 : 4 * f ≤ 4 * F0 + t) (b3 : B ≤ BT + t) :
    (∃ hc1 hm1, BS hc1 hm1 ∧ eqE lCs hc hc1 ∧ eqE (lMz f (F0 + 130) B (BT + 420) (2 * s + i)) hm hm1 ∧ (∀ Q : Int32 → hp → Prop, Q 0 hc1 → w_X5_readLaw hc Q) ∧ (∀ Q : hp → Prop, Q hm1 → w_X12_tellLaw hm (nI i) Q)) ∨
    (∃ hc1 hm1 t1 L, LGood T hc hm hc1 hm1 t t1 W Q0 s i f F0 B BT L ∧ (∀ Q : Int32 → hp → Prop, Q 1 hc1 → w_X5_readLaw hc Q) ∧ (∀ Q : hp → Prop, Q hm1 → w_X12_tellLaw hm (nI i) Q)) := by
  have t4 := g.1.2.2.2.1
  rcases L_take (x := 5) (cx := 61) (mx := 5) g (by omega) (by omega) rfl rfl with ⟨hc1, hm1, e1, e2, hk, g1, r1, r2⟩ | ⟨hc1, hm1, e1, e2, ⟨F, P, cf, fm⟩, r1, r2⟩
  rotate_left
  · left
    have n37 : gI hm1 0 37 = nI f := by rw [eqE_I e2 (by unfold sM; omega)]; exact m37
    obtain ⟨h3, y1, y2, y3⟩ := m_XTF (x1 := nI i) (x2 := nI f) (x3 := 0) (f := f) (F1 := F0 + 130) (B := B) (B1 := BT + 420) fm n37 (by omega) (by omega) hF0
    refine ⟨hc1, h3, ⟨F, P, cf, y1⟩, s2_l e1, lMs_z (eqE_trans (sM_l e2) y2), fun Q hq => ?_, fun Q hq => ?_⟩
    · unfold w_X5_readLaw w_X5_readLaw_0
      exact r1 _ ⟨fun q => absurd rfl q, fun _ => hq⟩
    · unfold w_X12_tellLaw w_X12_tellLaw_0
      refine r2 _ (fun x2 ex => ?_)
      rw [n37] at ex
      subst ex
      exact fun X hX => y3 Q X hX hq
  let hcB := sI (sI (sI (sI (sI (sI (sI (sI hc1 9 2 0) 8 1 0) 8 2 1) 8 3 1) 8 4 59) 8 5 0) 8 6 0) 8 9 0
  have gB : GS T hcB hm1 (t + 1) W Q0 := GS_f (agI_sI (agI_sI (agI_sI (agI_sI (agI_sI (agI_sI (agI_sI (agI_sI (agI_r _) (by unfold kGC; omega)) (by unfold kGC; omega)) (by unfold kGC; omega)) (by unfold kGC; omega)) (by unfold kGC; omega)) (by unfold kGC; omega)) (by unfold kGC; omega)) (by unfold kGC; omega)) (agI_r _) g1
  have fB : eqE lCs hc hcB := eqE_sI (eqE_sI (eqE_sI (eqE_sI (eqE_sI (eqE_sI (eqE_sI (eqE_sI (s2_l e1) (by unfold lCs; omega)) (by unfold lCs; omega)) (by unfold lCs; omega)) (by unfold lCs; omega)) (by unfold lCs; omega)) (by unfold lCs; omega)) (by unfold lCs; omega)) (by unfold lCs; omega)
  have n37 : gI hm1 0 37 = nI f := by rw [eqE_I e2 (by unfold sM; omega)]; exact m37
  have hL : LSt T hcB hm1 (t + 1) W Q0 0 0 f F0 B BT (fun _ => (0, 0)) (fun _ => 0) (fun _ => 0) (fun _ => 0) := by
    refine ⟨gB, ⟨by omega, by omega, b1, by omega, by show 0 + 2 * 0 + 1 ≤ t + 1; omega, by show B + 0 ≤ BT + (t + 1); omega⟩, ⟨rfl, rfl, rfl, rfl, rfl, rfl, rfl, rfl⟩, ⟨?_, n37, ?_⟩, fun k hk => absurd hk (Nat.not_lt_zero k), ⟨fun k hk => absurd hk (Nat.not_lt_zero k), fun c hc => absurd hc (Nat.not_lt_zero c)⟩, rfl, fun k hk => absurd hk (Nat.not_lt_zero k)⟩
    · rw [eqE_I e2 (by unfold sM; omega)]; exact m12
    · rw [eqE_I e2 (by unfold sM; omega)]; exact m43
  have rc : ∀ Q : Int32 → hp → Prop, (∀ X, clsd20 Q X → X (nI 0, hcB)) → w_X5_readLaw hc Q := fun Q hq => by
    unfold w_X5_readLaw w_X5_readLaw_0
    refine r1 _ ⟨fun _ => ?_, fun q => absurd q (by decide)⟩
    unfold w_X3_begin w_X3_begin_0 w_X2_clear w_X2_clear_0
    intro h1 a1 h2 a2 h3 a3 h4 a4 h5 a5 h6 a6 h7 a7 h8 a8
    subst a1 a2 a3 a4 a5 a6 a7 a8
    exact fun X hX => hq X hX
  have rm : ∀ Q : hp → Prop, (∀ X, clsdT Q (nI i) (nI f) X → X (nI 0, hm1)) → w_X12_tellLaw hm (nI i) Q := fun Q hq => by
    unfold w_X12_tellLaw w_X12_tellLaw_0
    refine r2 _ (fun x2 ex => ?_)
    rw [n37] at ex
    subst ex
    exact fun X hX => hq X hX
  have m19' : gI hm1 0 19 = nI s := by rw [eqE_I e2 (by unfold sM; omega)]; exact m19
  rcases L_from hBT hF0 hs hi 4 rfl hL m19' with ⟨hc2, hm2, b1, u1, u2, s1, s2⟩ | ⟨hc2, hm2, t2, L, ⟨q1, q2, q3, q4, q5, q6, q7, q8, q9, q10, q11, q12⟩, s1, s2⟩
  · exact Or.inl ⟨hc2, hm2, b1, eqE_trans fB u1, eqE_trans (lMs_z (sM_l e2)) u2, fun Q hq => rc Q (fun X cl => s1 Q X cl hq), fun Q hq => rm Q (fun X cl => s2 Q X cl hq)⟩
  · exact Or.inr ⟨hc2, hm2, t2, L, ⟨q1, by omega, q3, q4, q5, q6, q7, q8, q9, q10, eqE_trans fB q11, eqE_trans (lMs_z (sM_l e2)) q12⟩, fun Q hq => rc Q (fun X cl => s1 Q X cl hq), fun Q hq => rm Q (fun X cl => s2 Q X cl hq)⟩
/-! the text that is being read -/
def dRow (d s R : Nat) (hc hm : hp) : Prop := ∃ S N, okRows R S N ∧ cRows d hc R S N ∧ mRows s hm R S N ∧ ∀ k, k < R → gL hc (d + 2) k = gL hm 8 k
def dShr (T : Tb) (d s NS : Nat) (hc hm : hp) : Prop := ∃ AT WH SK : Nat → Nat, (∀ i, i < NS → 1 ≤ AT i ∧ AT i ≤ 96 ∧ WH i ≤ 96 ∧ ∀ j, j < NS → ¬ i = j → ¬ AT i = AT j) ∧ cSh (d + 9) hc NS AT WH ∧ mSh s hm NS AT WH ∧ ∀ i, i < NS → SK i ≤ 400 ∧ SK i ≤ tbC T ∧ gI hc (d + 9 + 2) i = nI (tbS T (SK i)) ∧ gI hm 16 (8 * s + i) = nI (SK i)
def dPri (d s : Nat) (hc hm : hp) : Prop := ∃ P, isPr P ∧ cP d hc P ∧ gI hm 12 s = nI P
def dBag (d s K : Nat) (hc hm : hp) : Prop := ∃ C, okBags K C ∧ cBags d hc K C ∧ mBags s hm K C
def dWld (d s : Nat) (hc hm : hp) : Prop := ∃ W G, okW W G ∧ gI hc d 7 = nI W ∧ gI hc d 8 = nI G ∧ mWld s hm W G
def dLia (d s : Nat) (hc hm : hp) : Prop := ∃ Lr, Lr ≤ 9 ∧ gI hc d 9 = nI Lr ∧ gI hm 21 s = nI Lr
def dAsk (d s f B : Nat) (hc hm : hp) : Prop := ∃ L, wfL L ∧ cLaw (d + 4) hc L ∧ mAskR s hm L f B
def kRwC (d R : Nat) (a j : Nat) : Prop := (a = d ∧ j = 0) ∨ a = d + 1 ∨ (a = d + 2 ∧ j < R) ∨ a = d + 3
def kRwM (s R : Nat) (a j : Nat) : Prop := (a = 9 ∧ j = s) ∨ (a = 10 ∧ 6 * s ≤ j ∧ j < 6 * s + 6) ∨ (a = 11 ∧ 36 * s ≤ j ∧ j < 36 * s + 36) ∨ (a = 8 ∧ j < R)
theorem dRow_f {d s R : Nat} {hc hm hc1 hm1 : hp} (ec : agI (kRwC d R) hc hc1) (em : agI (kRwM s R) hm hm1) (a : dRow d s R hc hm) : dRow d s R hc1 hm1 := by
  obtain ⟨S, N, a1, ⟨b1, b2⟩, ⟨c1, c2⟩, e⟩ := a
  refine ⟨S, N, a1, ⟨?_, fun r hr => ⟨?_, fun k hk => ?_⟩⟩, ⟨?_, fun r hr => ⟨?_, fun k hk => ?_⟩⟩, fun k hk => ?_⟩
  · rw [(ec d 0 (by unfold kRwC; omega)).1]; exact b1
  · rw [(ec (d + 1) r (by unfold kRwC; omega)).1]; exact (b2 r hr).1
  · rw [(ec (d + 3) _ (by unfold kRwC; omega)).1]; exact (b2 r hr).2 k hk
  · rw [(em 9 s (by unfold kRwM; omega)).1]; exact c1
  · have := a1.1; rw [(em 10 _ (by unfold kRwM; omega)).1]; exact (c2 r hr).1
  · have := a1.1; have := (a1.2 r hr).1; rw [(em 11 _ (by unfold kRwM; omega)).1]; exact (c2 r hr).2 k hk
  · rw [(ec (d + 2) k (by unfold kRwC; omega)).2, (em 8 k (by unfold kRwM; omega)).2]; exact e k hk
def kShC (d : Nat) (a j : Nat) : Prop := (a = d + 9 ∧ j = 0) ∨ a = d + 10 ∨ a = d + 11 ∨ a = d + 12
def kShM (s : Nat) (a j : Nat) : Prop := (a = 13 ∧ j = s) ∨ ((a = 14 ∨ a = 15 ∨ a = 16) ∧ 8 * s ≤ j ∧ j < 8 * s + 8)
theorem dShr_f {T : Tb} {d s NS : Nat} {hc hm hc1 hm1 : hp} (h8 : NS ≤ 8) (ec : agI (kShC d) hc hc1) (em : agI (kShM s) hm hm1) (a : dShr T d s NS hc hm) : dShr T d s NS hc1 hm1 := by
  obtain ⟨AT, WH, SK, a1, ⟨b1, b2⟩, ⟨c1, c2⟩, e⟩ := a
  refine ⟨AT, WH, SK, a1, ⟨?_, fun i hi => ⟨?_, ?_⟩⟩, ⟨?_, fun i hi => ⟨?_, ?_⟩⟩, fun i hi => ⟨(e i hi).1, (e i hi).2.1, ?_, ?_⟩⟩
  · rw [(ec (d + 9) 0 (by unfold kShC; omega)).1]; exact b1
  · rw [(ec (d + 9 + 1) i (by unfold kShC; omega)).1]; exact (b2 i hi).1
  · rw [(ec (d + 9 + 3) i (by unfold kShC; omega)).1]; exact (b2 i hi).2
  · rw [(em 13 s (by unfold kShM; omega)).1]; exact c1
  · rw [(em 14 _ (by unfold kShM; omega)).1]; exact (c2 i hi).1
  · rw [(em 15 _ (by unfold kShM; omega)).1]; exact (c2 i hi).2
  · rw [(ec (d + 9 + 2) i (by unfold kShC; omega)).1]; exact (e i hi).2.2.1
  · rw [(em 16 _ (by unfold kShM; omega)).1]; exact (e i hi).2.2.2
def kPrC (d : Nat) (a j : Nat) : Prop := a = d + 9 ∧ j = 1
def kPrM (s : Nat) (a j : Nat) : Prop := a = 12 ∧ j = s
theorem dPri_f {d s : Nat} {hc hm hc1 hm1 : hp} (ec : agI (kPrC d) hc hc1) (em : agI (kPrM s) hm hm1) (a : dPri d s hc hm) : dPri d s hc1 hm1 := by
  obtain ⟨P, a1, a2, a3⟩ := a
  exact ⟨P, a1, by unfold cP; rw [(ec (d + 9) 1 ⟨rfl, rfl⟩).1]; exact a2, by rw [(em 12 s ⟨rfl, rfl⟩).1]; exact a3⟩
def kBgC (d : Nat) (a j : Nat) : Prop := (a = d + 15 ∧ j = 0) ∨ a = d + 16
def kBgM (s : Nat) (a j : Nat) : Prop := (a = 17 ∧ j = s) ∨ (a = 18 ∧ 9 * s ≤ j ∧ j < 9 * s + 9)
theorem dBag_f {d s K : Nat} {hc hm hc1 hm1 : hp} (ec : agI (kBgC d) hc hc1) (em : agI (kBgM s) hm hm1) (a : dBag d s K hc hm) : dBag d s K hc1 hm1 := by
  obtain ⟨C, a1, ⟨b1, b2⟩, c1, c2⟩ := a
  have := a1.1
  refine ⟨C, a1, ⟨?_, fun i hi => ?_⟩, ?_, fun k hk => ?_⟩
  · rw [(ec (d + 15) 0 (by unfold kBgC; omega)).1]; exact b1
  · rw [(ec (d + 16) i (by unfold kBgC; omega)).1]; exact b2 i hi
  · rw [(em 17 s (by unfold kBgM; omega)).1]; exact c1
  · rw [(em 18 _ (by unfold kBgM; omega)).1]; exact c2 k hk
def kWlC (d : Nat) (a j : Nat) : Prop := a = d ∧ (j = 7 ∨ j = 8)
def kWlM (s : Nat) (a j : Nat) : Prop := (a = 19 ∨ a = 20) ∧ j = s
theorem dWld_f {d s : Nat} {hc hm hc1 hm1 : hp} (ec : agI (kWlC d) hc hc1) (em : agI (kWlM s) hm hm1) (a : dWld d s hc hm) : dWld d s hc1 hm1 := by
  obtain ⟨W, G, a1, a2, a3, a4, a5⟩ := a
  exact ⟨W, G, a1, by rw [(ec d 7 ⟨rfl, Or.inl rfl⟩).1]; exact a2, by rw [(ec d 8 ⟨rfl, Or.inr rfl⟩).1]; exact a3, by rw [(em 19 s ⟨Or.inl rfl, rfl⟩).1]; exact a4, by rw [(em 20 s ⟨Or.inr rfl, rfl⟩).1]; exact a5⟩
def kLiC (d : Nat) (a j : Nat) : Prop := a = d ∧ j = 9
def kLiM (s : Nat) (a j : Nat) : Prop := a = 21 ∧ j = s
theorem dLia_f {d s : Nat} {hc hm hc1 hm1 : hp} (ec : agI (kLiC d) hc hc1) (em : agI (kLiM s) hm hm1) (a : dLia d s hc hm) : dLia d s hc1 hm1 := by
  obtain ⟨Lr, a1, a2, a3⟩ := a
  exact ⟨Lr, a1, by rw [(ec d 9 ⟨rfl, rfl⟩).1]; exact a2, by rw [(em 21 s ⟨rfl, rfl⟩).1]; exact a3⟩
def kAsC (d : Nat) (a j : Nat) : Prop := (a = d + 4 ∧ j = 2) ∨ a = d + 5 ∨ a = d + 6
theorem dAsk_f {d s f B f' B' : Nat} {hc hm hc1 hm1 : hp} (hf : f ≤ f') (hB : B ≤ B') (ec : agI (kAsC d) hc hc1) (em : agI (kAsM s f B) hm hm1) (a : dAsk d s f B hc hm) : dAsk d s f' B' hc1 hm1 := by
  obtain ⟨L, a1, a2, a3⟩ := a
  refine ⟨L, a1, ?_, mAskR_w hf hB (mAskR_f a1 em a3)⟩
  have q4 : gI hc1 (d + 4) 2 = gI hc (d + 4) 2 := (ec (d + 4) 2 (by unfold kAsC; omega)).1
  have q5 : ∀ j, gI hc1 (d + 4 + 1) j = gI hc (d + 4 + 1) j := fun j => (ec (d + 4 + 1) j (by unfold kAsC; omega)).1
  have q6 : ∀ j, gI hc1 (d + 4 + 2) j = gI hc (d + 4 + 2) j := fun j => (ec (d + 4 + 2) j (by unfold kAsC; omega)).1
  unfold cLaw isStep
  simp only [q4, q5, q6]
  exact a2
def DV (T : Tb) (hc hm : hp) (d s R NS K f B : Nat) : Prop := dRow d s R hc hm ∧ dShr T d s NS hc hm ∧ dPri d s hc hm ∧ dBag d s K hc hm ∧ dWld d s hc hm ∧ dLia d s hc hm ∧ dAsk d s f B hc hm
def TS (T : Tb) (hc hm : hp) (d s t W : Nat) (Q0 : Int32) (R NS K f B : Nat) : Prop :=
  GS T hc hm t W Q0 ∧ (isO d ∧ gR hc 1 = d ∧ s < 2 ∧ R ≤ 6 ∧ NS ≤ 8 ∧ K ≤ 9) ∧ (gI hm 0 19 = nI s ∧ gI hm 0 12 = 0 ∧ gI hm 0 37 = nI f ∧ gI hm 0 43 = nI B ∧ 130 * s ≤ f ∧ 4 * f ≤ 4 * (130 * s) + t + 1 ∧ 420 * s ≤ B ∧ B ≤ 420 * s + t) ∧ (gI hc d 0 = nI R ∧ gI hm 9 s = nI R ∧ gI hm 0 20 = nI R) ∧ (gI hc (d + 9) 0 = nI NS ∧ gI hm 13 s = nI NS) ∧ (gI hc (d + 15) 0 = nI K ∧ gI hm 17 s = nI K) ∧ (W = 0 → DV T hc hm d s R NS K f B)
/-- what reading alone writes -/
def cRd (a _j : Nat) : Prop := a = 2 ∨ (8 ≤ a ∧ a ≤ 14)
def mRd (a j : Nat) : Prop := (a = 0 ∧ (j = 11 ∨ (13 ≤ j ∧ j ≤ 16) ∨ j = 47 ∨ j = 50)) ∨ a = 31 ∨ a = 32 ∨ a = 33
theorem O18 {d : Nat} (h : isO d) : d = 15 ∨ d = 33 := h
theorem TS_f {T : Tb} {hc hm hc1 hm1 : hp} {d s t t1 W W1 : Nat} {Q0 Q1 : Int32} {R NS K f B : Nat} (S : TS T hc hm d s t W Q0 R NS K f B) (g : GS T hc1 hm1 t1 W1 Q1) (ht : t ≤ t1) (hW : W1 = 0 → W = 0) (ec : eqE cRd hc hc1) (em : eqE mRd hm hm1) : TS T hc1 hm1 d s t1 W1 Q1 R NS K f B := by
  obtain ⟨g0, ⟨a1, a2, a3, a4, a5, a6⟩, ⟨b1, b2, b3, b4, b5, b6, b7, b8⟩, ⟨c1, c2, c3⟩, ⟨d1, d2⟩, ⟨e1, e2⟩, v⟩ := S
  have hd := O18 a1
  have C : ∀ a j, 15 ≤ a → gI hc1 a j = gI hc a j := fun a j h => eqE_I ec (by unfold cRd; omega)
  have M : ∀ a j, (9 ≤ a ∧ a ≤ 30) → gI hm1 a j = gI hm a j := fun a j h => eqE_I em (by unfold mRd; omega)
  have ac : ∀ X : Nat → Nat → Prop, (∀ a j, X a j → 15 ≤ a) → agI X hc hc1 := fun X h => agI_e ec (fun a j q z => by have := h a j q; unfold cRd at z; omega)
  have am : ∀ X : Nat → Nat → Prop, (∀ a j, X a j → 8 ≤ a ∧ a ≤ 30) → agI X hm hm1 := fun X h => agI_e em (fun a j q z => by have := h a j q; unfold mRd at z; omega)
  refine ⟨g, ⟨a1, by rw [ec.2]; exact a2, a3, a4, a5, a6⟩, ⟨?_, ?_, ?_, ?_, b5, by omega, b7, by omega⟩, ⟨?_, ?_, ?_⟩, ⟨?_, ?_⟩, ⟨?_, ?_⟩, fun w => ?_⟩
  · rw [eqE_I em (by unfold mRd; omega)]; exact b1
  · rw [eqE_I em (by unfold mRd; omega)]; exact b2
  · rw [eqE_I em (by unfold mRd; omega)]; exact b3
  · rw [eqE_I em (by unfold mRd; omega)]; exact b4
  · rw [C _ _ (by omega)]; exact c1
  · rw [M _ _ (by omega)]; exact c2
  · rw [eqE_I em (by unfold mRd; omega)]; exact c3
  · rw [C _ _ (by omega)]; exact d1
  · rw [M _ _ (by omega)]; exact d2
  · rw [C _ _ (by omega)]; exact e1
  · rw [M _ _ (by omega)]; exact e2
  · obtain ⟨v1, v2, v3, v4, v5, v6, v7⟩ := v (hW w)
    exact ⟨dRow_f (ac _ (fun a j q => by unfold kRwC at q; omega)) (am _ (fun a j q => by unfold kRwM at q; omega)) v1, dShr_f a5 (ac _ (fun a j q => by unfold kShC at q; omega)) (am _ (fun a j q => by unfold kShM at q; omega)) v2, dPri_f (ac _ (fun a j q => by unfold kPrC at q; omega)) (am _ (fun a j q => by unfold kPrM at q; omega)) v3, dBag_f (ac _ (fun a j q => by unfold kBgC at q; omega)) (am _ (fun a j q => by unfold kBgM at q; omega)) v4, dWld_f (ac _ (fun a j q => by unfold kWlC at q; omega)) (am _ (fun a j q => by unfold kWlM at q; omega)) v5, dLia_f (ac _ (fun a j q => by unfold kLiC at q; omega)) (am _ (fun a j q => by unfold kLiM at q; omega)) v6, dAsk_f (Nat.le_refl _) (Nat.le_refl _) (ac _ (fun a j q => by unfold kAsC at q; omega)) (am _ (fun a j q => by unfold kAsM at q; omega)) v7⟩
/-- what a text's reading writes -/
def scrC (d : Nat) (a _j : Nat) : Prop := a = 2 ∨ (8 ≤ a ∧ a ≤ 14) ∨ (d ≤ a ∧ a < d + 18)
def scrM (s : Nat) (a j : Nat) : Prop := (a = 0 ∧ ((11 ≤ j ∧ j ≤ 16) ∨ j = 20 ∨ j = 37 ∨ j = 43 ∨ j = 47 ∨ j = 50)) ∨ a = 8 ∨ a = 31 ∨ a = 32 ∨ a = 33 ∨ ((a = 9 ∨ a = 12 ∨ a = 13 ∨ a = 17 ∨ a = 19 ∨ a = 20 ∨ a = 21) ∧ j = s) ∨ (a = 10 ∧ 6 * s ≤ j ∧ j < 6 * s + 6) ∨ (a = 11 ∧ 36 * s ≤ j ∧ j < 36 * s + 36) ∨ ((a = 14 ∨ a = 15 ∨ a = 16) ∧ 8 * s ≤ j ∧ j < 8 * s + 8) ∨ (a = 18 ∧ 9 * s ≤ j ∧ j < 9 * s + 9) ∨ ((a = 22 ∨ a = 23) ∧ (j = 2 * s ∨ j = 2 * s + 1)) ∨ ((24 ≤ a ∧ a ≤ 28) ∧ 130 * s ≤ j ∧ j < 130 * s + 130) ∨ ((a = 29 ∨ a = 30) ∧ 420 * s ≤ j ∧ j < 420 * s + 420)
theorem sc_0 {s j : Nat} (h : (11 ≤ j ∧ j ≤ 16) ∨ j = 20 ∨ j = 37 ∨ j = 43 ∨ j = 47 ∨ j = 50) : scrM s 0 j := Or.inl ⟨rfl, h⟩
theorem sc_8 {s j : Nat} : scrM s 8 j := Or.inr (Or.inl rfl)
theorem sc_31 {s j : Nat} : scrM s 31 j := Or.inr (Or.inr (Or.inl rfl))
theorem sc_32 {s j : Nat} : scrM s 32 j := Or.inr (Or.inr (Or.inr (Or.inl rfl)))
theorem sc_33 {s j : Nat} : scrM s 33 j := Or.inr (Or.inr (Or.inr (Or.inr (Or.inl rfl))))
theorem sc_s {s a : Nat} (h : a = 9 ∨ a = 12 ∨ a = 13 ∨ a = 17 ∨ a = 19 ∨ a = 20 ∨ a = 21) : scrM s a s := Or.inr (Or.inr (Or.inr (Or.inr (Or.inr (Or.inl ⟨h, rfl⟩)))))
theorem sc_10 {s j : Nat} (h : 6 * s ≤ j ∧ j < 6 * s + 6) : scrM s 10 j := Or.inr (Or.inr (Or.inr (Or.inr (Or.inr (Or.inr (Or.inl ⟨rfl, h⟩))))))
theorem sc_11 {s j : Nat} (h : 36 * s ≤ j ∧ j < 36 * s + 36) : scrM s 11 j := Or.inr (Or.inr (Or.inr (Or.inr (Or.inr (Or.inr (Or.inr (Or.inl ⟨rfl, h⟩)))))))
theorem sc_14 {s a j : Nat} (h : a = 14 ∨ a = 15 ∨ a = 16) (h2 : 8 * s ≤ j ∧ j < 8 * s + 8) : scrM s a j := Or.inr (Or.inr (Or.inr (Or.inr (Or.inr (Or.inr (Or.inr (Or.inr (Or.inl ⟨h, h2⟩))))))))
theorem sc_18 {s j : Nat} (h : 9 * s ≤ j ∧ j < 9 * s + 9) : scrM s 18 j := Or.inr (Or.inr (Or.inr (Or.inr (Or.inr (Or.inr (Or.inr (Or.inr (Or.inr (Or.inl ⟨rfl, h⟩)))))))))
theorem sc_22 {s a j : Nat} (h : a = 22 ∨ a = 23) (h2 : j = 2 * s ∨ j = 2 * s + 1) : scrM s a j := Or.inr (Or.inr (Or.inr (Or.inr (Or.inr (Or.inr (Or.inr (Or.inr (Or.inr (Or.inr (Or.inl ⟨h, h2⟩))))))))))
theorem sc_24 {s a j : Nat} (h : 24 ≤ a ∧ a ≤ 28) (h2 : 130 * s ≤ j ∧ j < 130 * s + 130) : scrM s a j := Or.inr (Or.inr (Or.inr (Or.inr (Or.inr (Or.inr (Or.inr (Or.inr (Or.inr (Or.inr (Or.inr (Or.inl ⟨h, h2⟩)))))))))))
theorem sc_29 {s a j : Nat} (h : a = 29 ∨ a = 30) (h2 : 420 * s ≤ j ∧ j < 420 * s + 420) : scrM s a j := Or.inr (Or.inr (Or.inr (Or.inr (Or.inr (Or.inr (Or.inr (Or.inr (Or.inr (Or.inr (Or.inr (Or.inr ⟨h, h2⟩)))))))))))
theorem cRd_s {d : Nat} {h h1 : hp} (e : eqE cRd h h1) : eqE (scrC d) h h1 := eqE_w (fun a j q => by unfold cRd at q; unfold scrC; omega) e
theorem mRd_s {s : Nat} {h h1 : hp} (e : eqE mRd h h1) : eqE (scrM s) h h1 := eqE_w (fun a j q => by
  rcases q with ⟨q, r⟩ | q | q | q
  · subst q; exact sc_0 (by omega)
  · subst q; exact sc_31
  · subst q; exact sc_32
  · subst q; exact sc_33) e
theorem s2_r {h h1 : hp} (e : eqE s2 h h1) : eqE cRd h h1 := eqE_w (fun a j q => by unfold s2 at q; unfold cRd; omega) e
theorem sM_r {h h1 : hp} (e : eqE sM h h1) : eqE mRd h h1 := eqE_w (fun a j q => by unfold sM at q; unfold mRd; omega) e
theorem l_sC {d : Nat} {h h1 : hp} (e : eqE lCs h h1) : eqE (scrC d) h h1 := eqE_w (fun a j q => by unfold lCs at q; unfold scrC; omega) e
theorem lz_sM {s f i : Nat} {h h1 : hp} {B : Nat} (hi : i < 2) (hf : 130 * s ≤ f) (hB : 420 * s ≤ B) (e : eqE (lMz f (130 * s + 130) B (420 * s + 420) (2 * s + i)) h h1) : eqE (scrM s) h h1 := eqE_w (fun a j q => by
  rcases q with (⟨q, r⟩ | q | ⟨q, r⟩ | ⟨q, r⟩) | ⟨q, r⟩
  · subst q; exact sc_0 (by omega)
  · subst q; exact sc_31
  · exact sc_24 q (by omega)
  · exact sc_29 q (by omega)
  · exact sc_22 q (by omega)) e
def TOut (T : Tb) (hc hm : hp) (d s t : Nat) (wc : (Int32 → hp → Prop) → Prop) (wm : (hp → Prop) → Prop) : Prop :=
  (∃ hc1 hm1, BS hc1 hm1 ∧ eqE (scrC d) hc hc1 ∧ eqE (scrM s) hm hm1 ∧ (∀ Q, Q 0 hc1 → wc Q) ∧ (∀ Q, Q hm1 → wm Q)) ∨
  (∃ hc1 hm1 t1 W1 Q1 R1 NS1 K1 f1 B1, TS T hc1 hm1 d s t1 W1 Q1 R1 NS1 K1 f1 B1 ∧ t < t1 ∧ eqE (scrC d) hc hc1 ∧ eqE (scrM s) hm hm1 ∧ (∀ Q, Q 1 hc1 → wc Q) ∧ (∀ Q, Q hm1 → wm Q))
/-! a number from lo to hi -/
def inB (T : Tb) (t lo hi : Nat) : Prop := lo ≤ tv T t ∧ tv T t ≤ hi
theorem GS_note {T : Tb} {hc hm : hp} {t W F q : Nat} {Q0 : Int32} (g : GS T hc hm t W Q0) (h1 : 1 ≤ F) (hF : F ≤ 5) (hq : q < t) : GS T (noteC T hc W F q) (noteM T hm W F q) t (nt W F) (nq W Q0 (nI (tbS T q))) := GS_mk (CH_note (GS_c g)) (MH_note (GS_m g)) (nOk_nt (GS_n g) h1 hF hq)
theorem nt_0 {W F : Nat} (h : 1 ≤ F) : ¬ nt W F = 0 := by unfold nt; split <;> omega
theorem L_bnd {T : Tb} {hc hm : hp} {t W lo hi : Nat} {Q0 : Int32} (g : GS T hc hm t W Q0) (hlo : lo ≤ 999) (hhi : hi ≤ 999) :
    (∃ hc1 hm1 v, BS hc1 hm1 ∧ eqE s2 hc hc1 ∧ eqE sM hm hm1 ∧ (∀ Q : Int32 → hp → Prop, Q 0 hc1 → w_X5_take hc 3 Q) ∧ (∀ Q : Int32 → hp → Prop, Q v hm1 → w_X12_bounded hm (nI lo) (nI hi) Q)) ∨
    (tbK T t = 2 ∧ t < 400 ∧ ∃ hc1 hc2 hm1 W1 Q1, GS T hc2 hm1 (t + 1) W1 Q1 ∧ CH T hc1 (t + 1) W Q0 ∧ (W1 = 0 ↔ W = 0 ∧ inB T t lo hi) ∧ eqE s2 hc hc1 ∧ eqE s2 hc1 hc2 ∧ eqE sM hm hm1 ∧ (∀ Q : Int32 → hp → Prop, Q 1 hc1 → w_X5_take hc 3 Q) ∧ (∀ Q : Int32 → hp → Prop, (inB T t lo hi → Q 1 hc2) → (¬ inB T t lo hi → Q 0 hc2) → w_X5_takenWithin hc1 1 (nI lo) (nI hi) Q) ∧ (∀ Q : Int32 → hp → Prop, Q (nI (tv T t)) hm1 → w_X12_bounded hm (nI lo) (nI hi) Q)) := by
  have gc := GS_c g
  have gm := GS_m g
  have nk := GS_n g
  by_cases hk : tbK T t = 2
  · by_cases ht : t < 400
    · right
      refine ⟨hk, ht, ?_⟩
      have k0 : ¬ tbK T t = 0 := by omega
      have c1 := CH_adv gc ht k0
      have tk : ∀ Q : Int32 → hp → Prop, Q 1 (cAdv hc t) → w_X5_take hc 3 Q := fun Q hq => take1 (x := 2) gc hk ht hq
      have w5 := nk.1
      have pv := prv_n (F := 5) nk (Nat.le_refl t)
      have wI : ∀ Q : Int32 → hp → Prop, (inB T t lo hi → Q 1 (cAdv hc t)) → (¬ inB T t lo hi → Q 0 (noteC T (cAdv hc t) W 5 t)) → w_X5_takenWithin (cAdv hc t) (nI 1) (nI lo) (nI hi) Q := fun Q q1 q0 => by
        refine withinH (k := 1) c1 (by omega) ?_ hlo hhi w5 (fun q => q1 ?_) (fun q => ?_)
        · rw [Nat.add_sub_cancel]; exact hk
        · rw [Nat.add_sub_cancel] at q; exact q
        · rw [Nat.add_sub_cancel] at q ⊢; exact q0 q
      by_cases r : inB T t lo hi
      · exact ⟨cAdv hc t, cAdv hc t, mAdv hm t, W, Q0, GS_adv g ht k0, c1, ⟨fun w => ⟨w, r⟩, fun w => w.1⟩, cAdv_e, eqE_refl _, mAdv_e, tk, fun Q q1 q0 => wI Q q1 (fun n => absurd r n), fun Q hq => bnd1 gm pv hk hlo hhi ht (fun _ => hq) (fun n => absurd r n)⟩
      · have gn : GS T (noteC T (cAdv hc t) W 5 t) (mAdv (noteM T hm W 5 t) t) (t + 1) (nt W 5) (nq W Q0 (nI (tbS T t))) := GS_mk (CH_note c1) (MH_adv (MH_note gm) ht k0) (nOk_nt (nOk_s nk) (by omega) (by omega) (by omega))
        exact ⟨cAdv hc t, _, _, _, _, gn, c1, ⟨fun w => absurd w (nt_0 (by omega)), fun w => absurd w.2 r⟩, cAdv_e, noteC_e, eqE_trans noteM_e mAdv_e, tk, fun Q q1 q0 => wI Q (fun n => absurd n r) q0, fun Q hq => bnd1 gm pv hk hlo hhi ht (fun q => absurd q r) (fun _ => hq)⟩
    · left
      obtain ⟨hm1, e1, f1, r1⟩ := bnd2 (lo := lo) (hi := hi) gm (prv_n (F := 5) nk (Nat.le_refl t)) hk hlo hhi ht
      exact ⟨cSt T hc 2 t, hm1, _, ⟨2, _, CF_st, f1⟩, cSt_e, e1, fun Q hq => take2 (x := 2) gc hk ht hq, r1⟩
  · left
    exact ⟨cSt T hc 1 t, mSt T hm 1 t, nI lo, ⟨1, _, CF_st, FM_st gm (by omega) (by omega)⟩, cSt_e, mSt_e, fun Q hq => take3 (x := 2) gc (by omega) hk hq, fun Q hq => bnd3 gm hk hq⟩
def kMi (a j : Nat) : Prop := a = 0 ∧ (j = 12 ∨ j = 19 ∨ j = 37 ∨ j = 43)
/-- a text is written on -/
theorem TS_w {T : Tb} {hc hm hc1 hm1 : hp} {d s t W : Nat} {Q0 : Int32} {R NS K f B R1 NS1 K1 : Nat} (S : TS T hc hm d s t W Q0 R NS K f B) (ec : agI kGC hc hc1) (er : ∀ i, gR hc1 i = gR hc i) (em : agI kGM hm hm1) (mi : agI kMi hm hm1) (hn : R1 ≤ 6 ∧ NS1 ≤ 8 ∧ K1 ≤ 9) (c1 : gI hc1 d 0 = nI R1 ∧ gI hm1 9 s = nI R1 ∧ gI hm1 0 20 = nI R1) (c2 : gI hc1 (d + 9) 0 = nI NS1 ∧ gI hm1 13 s = nI NS1) (c3 : gI hc1 (d + 15) 0 = nI K1 ∧ gI hm1 17 s = nI K1) (v : W = 0 → DV T hc1 hm1 d s R1 NS1 K1 f B) : TS T hc1 hm1 d s t W Q0 R1 NS1 K1 f B := by
  obtain ⟨g0, ⟨a1, a2, a3, a4, a5, a6⟩, ⟨b1, b2, b3, b4, b5, b6, b7, b8⟩, _⟩ := S
  refine ⟨GS_f ec em g0, ⟨a1, by rw [er]; exact a2, a3, hn⟩, ⟨?_, ?_, ?_, ?_, b5, b6, b7, b8⟩, c1, c2, c3, v⟩
  · rw [(mi 0 19 (by unfold kMi; omega)).1]; exact b1
  · rw [(mi 0 12 (by unfold kMi; omega)).1]; exact b2
  · rw [(mi 0 37 (by unfold kMi; omega)).1]; exact b3
  · rw [(mi 0 43 (by unfold kMi; omega)).1]; exact b4
/-- the ; of a tell -/
theorem L_semi {T : Tb} {hc0 hm0 hc hm : hp} {d s t t0 W : Nat} {Q0 : Int32} {R NS K f B : Nat} {wc : (Int32 → hp → Prop) → Prop} {wm : (hp → Prop) → Prop} (S : TS T hc hm d s t W Q0 R NS K f B) (ht : t0 ≤ t) (ec : eqE (scrC d) hc0 hc) (em : eqE (scrM s) hm0 hm) (rc : ∀ Q : Int32 → hp → Prop, w_X5_take hc 59 (fun r h => (r = 0 → Q 0 h) ∧ (¬ (r = 0) → Q 1 h)) → wc Q) (rm : ∀ Q : hp → Prop, w_X12_must hm 4 Q → wm Q) : TOut T hc0 hm0 d s t0 wc wm := by
  rcases L_take (x := 4) (cx := 59) (mx := 4) S.1 (by omega) (by omega) rfl rfl with ⟨hc1, hm1, e1, e2, hk, g1, r1, r2⟩ | ⟨hc1, hm1, e1, e2, b, r1, r2⟩
  · exact Or.inr ⟨hc1, hm1, t + 1, W, Q0, R, NS, K, f, B, TS_f S g1 (by omega) (fun w => w) (s2_r e1) (sM_r e2), by omega, eqE_trans ec (cRd_s (s2_r e1)), eqE_trans em (mRd_s (sM_r e2)), fun Q hq => rc Q (r1 _ ⟨fun q => absurd q (by decide), fun _ => hq⟩), fun Q hq => rm Q (r2 _ hq)⟩
  · exact Or.inl ⟨hc1, hm1, b, eqE_trans ec (cRd_s (s2_r e1)), eqE_trans em (mRd_s (sM_r e2)), fun Q hq => rc Q (r1 _ ⟨fun _ => hq, fun q => absurd rfl q⟩), fun Q hq => rm Q (r2 _ hq)⟩
def wcNum (k : Int32) (hc : hp) (Q : Int32 → hp → Prop) : Prop := w_X5_take hc 3 (fun r48 h47 => (r48 = 0 → (Q 0 h47)) ∧ (¬ (r48 = 0) → (w_X5_tellNumber h47 k (fun r51 h50 => (r51 = 0 → (Q 0 h50)) ∧ (¬ (r51 = 0) → (w_X5_take h50 59 (fun r54 h53 => (r54 = 0 → (Q 0 h53)) ∧ (¬ (r54 = 0) → (Q 1 h53)))))))))
theorem shO7 {d : Nat} (h : isO d) : shC d = 7 := by rcases h with q | q <;> subst q <;> decide
theorem ag_c {X : Nat → Nat → Prop} {h : hp} {a j : Nat} {v : Int32} (n : ¬ X a j) : agI X h (sI h a j v) := agI_sI (agI_r _) n
def wmLia (hm : hp) (Q : hp → Prop) : Prop := w_X12_bounded hm 0 9 (fun r40 h39 => vp_in (gI hm 0 19) 2 ∧ ∀ h41, h41 = sI h39 21 (ix (gI hm 0 19)) r40 → (w_X12_must h41 4 (fun h42 => Q h42)))
theorem T_lia {T : Tb} {hc hm : hp} {d s t W : Nat} {Q0 : Int32} {R NS K f B : Nat} (S : TS T hc hm d s t W Q0 R NS K f B) : TOut T hc hm d s t (wcNum 263 hc) (wmLia hm) := by
  have S0 := S
  obtain ⟨g0, ⟨a1, a2, a3, a4, a5, a6⟩, ⟨b1, b2, b3, b4, b5, b6, b7, b8⟩, ⟨n1, n2, n3⟩, ⟨o1, o2⟩, ⟨p1, p2⟩, v⟩ := S
  have hd := O18 a1
  have ins : vp_in (gI hm 0 19) 2 := by rw [b1]; exact in_n a3 (by omega)
  have ixs : ix (gI hm 0 19) = s := by rw [b1]; exact ix_n (by omega)
  rcases L_bnd (lo := 0) (hi := 9) g0 (by omega) (by omega) with ⟨hc1, hm1, vb, bs, e1, e2, r1, r2⟩ | ⟨hk, ht, hc1, hc2, hm1, W1, Q1, g1, c1, hw, e1, e2, e3, r1, r2, r3⟩
  · obtain ⟨F, P, cf, fm⟩ := bs
    left
    have fm' : FM (sI hm1 21 s vb) F P := FM_f (ag_c (by unfold kFM; omega)) fm
    refine ⟨hc1, sI hm1 21 s vb, ⟨F, P, cf, fm'⟩, cRd_s (s2_r e1), eqE_sI (mRd_s (sM_r e2)) (sc_s (by omega)), fun Q hq => r1 _ ⟨fun _ => hq, fun q => absurd rfl q⟩, fun Q hq => r2 _ ⟨ins, fun h41 e41 => ?_⟩⟩
    rw [ixs] at e41
    subst e41
    exact m_mustF fm' hq
  · have kv := tv_in g0.1.1 hk
    have S1 := TS_f S0 g1 (by omega) (fun w => (hw.mp w).1) (eqE_trans (s2_r e1) (s2_r e2)) (sM_r e3)
    have gr : gR hc2 1 = d := S1.2.1.2.1
    have k0 : ¬ tbK T (t + 1 - 1) = 0 := by rw [Nat.add_sub_cancel]; omega
    have S2 : TS T (sI hc2 d 9 (nI (tv T t))) (sI hm1 21 s (nI (tv T t))) d s (t + 1) W1 Q1 R NS K f B := by
      have S1' := S1
      obtain ⟨_, _, _, ⟨n1, n2, n3⟩, ⟨o1, o2⟩, ⟨p1, p2⟩, v⟩ := S1'
      refine TS_w S1 (ag_c (by unfold kGC; omega)) (fun _ => rfl) (ag_c (by unfold kGM; omega)) (ag_c (by unfold kMi; omega)) ⟨a4, a5, a6⟩ ⟨by rw [gI_k _ _ (by decide)]; exact n1, by rw [gI_o _ _ (by decide)]; exact n2, by rw [gI_o _ _ (by decide)]; exact n3⟩ ⟨by rw [gI_o _ _ (by omega)]; exact o1, by rw [gI_o _ _ (by decide)]; exact o2⟩ ⟨by rw [gI_o _ _ (by omega)]; exact p1, by rw [gI_o _ _ (by decide)]; exact p2⟩ (fun w => ?_)
      obtain ⟨v1, v2, v3, v4, v5, v6, v7⟩ := v w
      exact ⟨dRow_f (ag_c (by unfold kRwC; omega)) (ag_c (by unfold kRwM; omega)) v1, dShr_f a5 (ag_c (by unfold kShC; omega)) (ag_c (by unfold kShM; omega)) v2, dPri_f (ag_c (by unfold kPrC; omega)) (ag_c (by unfold kPrM; omega)) v3, dBag_f (ag_c (by unfold kBgC; omega)) (ag_c (by unfold kBgM; omega)) v4, dWld_f (ag_c (by unfold kWlC; omega)) (ag_c (by unfold kWlM; omega)) v5, ⟨tv T t, ((hw.mp w).2).2, gI_at _ _ _ _, gI_at _ _ _ _⟩, dAsk_f (Nat.le_refl _) (Nat.le_refl _) (ag_c (by unfold kAsC; omega)) (ag_c (by unfold kAsM; omega)) v7⟩
    refine L_semi S2 (by omega) (eqE_sI (eqE_trans (cRd_s (s2_r e1)) (cRd_s (s2_r e2))) (by unfold scrC; omega)) (eqE_sI (mRd_s (sM_r e3)) (sc_s (by omega))) (fun Q hq => r1 _ ⟨fun q => absurd q (by decide), fun _ => ?_⟩) (fun Q hq => r3 _ ⟨ins, fun h41 e41 => ?_⟩)
    · unfold w_X5_tellNumber w_X5_tellNumber_0
      refine takenH (k := 1) c1 (by omega) k0 (fun x2 ex => ?_)
      rw [Nat.add_sub_cancel, kv.2.2] at ex
      subst ex
      have fin : ∀ r : Int32, (shC (gR hc2 1) = 7 ∧ ∀ h15, h15 = sI hc2 (gR hc2 1) 9 (nI (tv T t)) → ((1 : Int32) = 0 → Q 0 h15) ∧ (¬ (1 : Int32) = 0 → w_X5_take h15 59 (fun r54 h53 => (r54 = 0 → (Q 0 h53)) ∧ (¬ (r54 = 0) → (Q 1 h53))))) := fun r => by
        rw [gr]
        refine ⟨shO7 a1, fun h15 e15 => ?_⟩
        subst e15
        exact ⟨fun q => absurd q (by decide), fun _ => hq⟩
      exact ⟨fun _ => ⟨fun q => absurd rfl q, fun _ => r2 _ (fun _ => fin 1) (fun _ => fin 0)⟩, fun q => absurd q (by decide)⟩
    · rw [ixs] at e41
      subst e41
      exact hq
/-- as TS_w, with what was read since -/
theorem TS_w2 {T : Tb} {hc hm hc1 hm1 : hp} {d s t t1 W W1 : Nat} {Q0 Q1 : Int32} {R NS K f B R1 NS1 K1 f1 B1 : Nat} (S : TS T hc hm d s t W Q0 R NS K f B) (g : GS T hc1 hm1 t1 W1 Q1) (er : ∀ i, gR hc1 i = gR hc i) (m19 : gI hm1 0 19 = gI hm 0 19) (m12 : gI hm1 0 12 = 0) (m37 : gI hm1 0 37 = nI f1) (m43 : gI hm1 0 43 = nI B1) (hf : f ≤ f1) (hf1 : 4 * f1 ≤ 4 * (130 * s) + t1 + 1) (hB : B ≤ B1) (hB1 : B1 ≤ 420 * s + t1) (hn : R1 ≤ 6 ∧ NS1 ≤ 8 ∧ K1 ≤ 9) (c1 : gI hc1 d 0 = nI R1 ∧ gI hm1 9 s = nI R1 ∧ gI hm1 0 20 = nI R1) (c2 : gI hc1 (d + 9) 0 = nI NS1 ∧ gI hm1 13 s = nI NS1) (c3 : gI hc1 (d + 15) 0 = nI K1 ∧ gI hm1 17 s = nI K1) (v : W1 = 0 → DV T hc1 hm1 d s R1 NS1 K1 f1 B1) : TS T hc1 hm1 d s t1 W1 Q1 R1 NS1 K1 f1 B1 := by
  obtain ⟨g0, ⟨a1, a2, a3, a4, a5, a6⟩, ⟨b1, b2, b3, b4, b5, b6, b7, b8⟩, _⟩ := S
  exact ⟨g, ⟨a1, by rw [er]; exact a2, a3, hn⟩, ⟨by rw [m19]; exact b1, m12, m37, m43, by omega, hf1, by omega, hB1⟩, c1, c2, c3, v⟩
theorem bagS_cg {C C' : Nat → Nat} (set : Nat) : ∀ K, (∀ k, k < K → C' k = C k) → bagS C' K set = bagS C K set
  | 0, _ => rfl
  | K + 1, h => by
    show bagS C' K set + _ = bagS C K set + _
    rw [bagS_cg set K (fun k hk => h k (by omega)), h K (by omega)]
theorem bagS_hi {C : Nat → Nat} {K i : Nat} : ∀ k, k ≤ K → bagS C k (2 ^ K + i) = bagS C k i
  | 0, _ => rfl
  | k + 1, h => by
    show bagS C k (2 ^ K + i) + _ = bagS C k i + _
    have e : 2 ^ K = 2 ^ k * (2 * 2 ^ (K - k - 1)) := by
      rw [← Nat.mul_assoc, Nat.mul_comm (2 ^ k) 2, Nat.mul_assoc, ← Nat.pow_add, show K = 1 + (k + (K - k - 1)) from by omega, Nat.pow_add]
      congr 2
      omega
    rw [bagS_hi k (by omega), e, Nat.mul_add_div (Nat.pow_pos (by omega))]
    have : (2 * 2 ^ (K - k - 1) + i / 2 ^ k) % 2 = i / 2 ^ k % 2 := by omega
    rw [this]
theorem c_bagAdd {o K : Nat} {x : Int32} {h : hp} (e : gI h o 0 = nI K) (hK : K < 9) : ∃ h1, eqE (fun a j => (a = o ∧ j = 0) ∨ a = o + 1) h h1 ∧ gI h1 o 0 = nI (K + 1) ∧ (∀ i, i < 2 ^ K → gI h1 (o + 1) i = gI h (o + 1) i ∧ gI h1 (o + 1) (2 ^ K + i) = gI h (o + 1) i + x) ∧ ∀ Q : hp → Prop, Q h1 → w_X0_add o h x Q := by
  have p9 : 2 ^ K ≤ 256 := by
    have : K = 0 ∨ K = 1 ∨ K = 2 ∨ K = 3 ∨ K = 4 ∨ K = 5 ∨ K = 6 ∨ K = 7 ∨ K = 8 := by omega
    rcases this with q | q | q | q | q | q | q | q | q <;> subst q <;> decide
  have key : ∀ (n i : Nat) (g : hp), n + i = 2 ^ K → eqE (fun a j => (a = o ∧ j = 0) ∨ a = o + 1) h g → gI g o 0 = nI K → (∀ j, j < 2 ^ K → gI g (o + 1) j = gI h (o + 1) j) → (∀ j, j < i → gI g (o + 1) (2 ^ K + j) = gI h (o + 1) j + x) → ∃ h1, eqE (fun a j => (a = o ∧ j = 0) ∨ a = o + 1) h h1 ∧ gI h1 o 0 = nI (K + 1) ∧ (∀ i, i < 2 ^ K → gI h1 (o + 1) i = gI h (o + 1) i ∧ gI h1 (o + 1) (2 ^ K + i) = gI h (o + 1) i + x) ∧ ∀ (Q : hp → Prop) (X : Int32 × hp → Prop), (∀ q, w_X0_add_b17 o Q x (nI (2 ^ K)) X q.1 q.2 → X q) → Q h1 → X (nI i, g) := by
    intro n
    induction n with
    | zero =>
      intro i g hi xg g0 lo hi2
      have ei : i = 2 ^ K := by omega
      refine ⟨sI g o 0 (nI (K + 1)), eqE_sI xg (Or.inl ⟨rfl, rfl⟩), gI_at _ _ _ _, fun j hj => ⟨?_, ?_⟩, fun Q X cl hq => cl _ ?_⟩
      · rw [gI_o _ _ (by omega)]; exact lo j hj
      · rw [gI_o _ _ (by omega)]; exact hi2 j (by omega)
      · show w_X0_add_b17 o Q x (nI (2 ^ K)) X (nI i) g
        unfold w_X0_add_b17
        refine ⟨fun _ h5 e5 => ?_, fun c => absurd (by rw [ei]; exact nI_le (Nat.le_refl _) (by omega)) c⟩
        rw [g0, ← nI_succ] at e5
        subst e5
        exact hq
    | succ n ih =>
      intro i g hi xg g0 lo hi2
      obtain ⟨h1, r1, r2, r3, r4⟩ := ih (i + 1) (sI g (o + 1) (2 ^ K + i) (gI h (o + 1) i + x)) (by omega) (eqE_sI xg (Or.inr rfl)) (by rw [gI_o _ _ (by omega)]; exact g0) (fun j hj => by rw [gI_k _ _ (by omega)]; exact lo j hj) (fun j hj => by
        by_cases z : j = i
        · subst z; exact gI_at _ _ _ _
        · rw [gI_k _ _ (by omega)]; exact hi2 j (by omega))
      refine ⟨h1, r1, r2, r3, fun Q X cl hq => cl _ ?_⟩
      show w_X0_add_b17 o Q x (nI (2 ^ K)) X (nI i) g
      unfold w_X0_add_b17
      rw [nI_add, ix_n (n := 2 ^ K + i) (by omega), ix_n (n := i) (by omega), lo i (by omega)]
      refine ⟨fun c => absurd c (nI_ge (by omega) (by omega)), fun _ => ⟨in_n (by omega) (by omega), in_n (by omega) (by omega), fun h6 e6 y ey => ?_⟩⟩
      rw [← nI_succ] at ey
      subst e6 ey
      exact r4 Q X cl hq
  obtain ⟨h1, r1, r2, r3, r4⟩ := key (2 ^ K) 0 h (by omega) (eqE_refl h) e (fun _ _ => rfl) (fun j hj => absurd hj (Nat.not_lt_zero j))
  refine ⟨h1, r1, r2, r3, fun Q hq => ?_⟩
  unfold w_X0_add w_X0_add_0 w_X0_sets w_X0_sets_0
  rw [e, shl1 K (by omega)]
  exact ⟨fun _ X hX => r4 Q X hX hq, fun c => absurd (nI_lt (a := K) (b := 9) hK (by omega)) c⟩
def wmBag (hm : hp) (Q : hp → Prop) : Prop := w_X12_bounded hm 0 999 (fun r24 h23 => vp_in ((9 * (gI hm 0 19)) + (gI hm 17 (ix (gI hm 0 19)))) 18 ∧ ∀ h25, h25 = sI h23 18 (ix ((9 * (gI hm 0 19)) + (gI hm 17 (ix (gI hm 0 19))))) r24 → (w_X12_must h25 4 (fun h26 => vp_in (gI h26 0 19) 2 ∧ (vp_in (gI h26 0 19) 2 ∧ ∀ h27, h27 = sI h26 17 (ix (gI h26 0 19)) ((gI h26 17 (ix (gI h26 0 19))) + 1) → (Q h27)))))
theorem T_bag {T : Tb} {hc hm : hp} {d s t W : Nat} {Q0 : Int32} {R NS K f B : Nat} (S : TS T hc hm d s t W Q0 R NS K f B) (hK : K < 9) : TOut T hc hm d s t (wcNum 261 hc) (wmBag hm) := by
  have S0 := S
  obtain ⟨g0, ⟨a1, a2, a3, a4, a5, a6⟩, ⟨b1, b2, b3, b4, b5, b6, b7, b8⟩, ⟨n1, n2, n3⟩, ⟨o1, o2⟩, ⟨p1, p2⟩, v⟩ := S
  have hd := O18 a1
  have ixs : ix (nI s) = s := ix_n (by omega)
  have e9 : 9 * nI s + nI K = nI (9 * s + K) := by rw [show (9 : Int32) = nI 9 from rfl, nI_mul (by omega) (by omega) (by omega), nI_add]
  have in18 : vp_in (nI (9 * s + K)) 18 := in_n (by omega) (by omega)
  have ins : vp_in (nI s) 2 := in_n a3 (by omega)
  -- the last row of the reference
  have last : ∀ (h26 : hp) (Q : hp → Prop), gI h26 0 19 = nI s → gI h26 17 s = nI K → Q (sI h26 17 s (nI (K + 1))) → vp_in (gI h26 0 19) 2 ∧ (vp_in (gI h26 0 19) 2 ∧ ∀ h27, h27 = sI h26 17 (ix (gI h26 0 19)) ((gI h26 17 (ix (gI h26 0 19))) + 1) → (Q h27)) := fun h26 Q q19 q17 hq => by
    rw [q19, ixs, q17]
    refine ⟨ins, ins, fun h27 e27 => ?_⟩
    rw [← nI_succ] at e27
    subst e27
    exact hq
  rcases L_bnd (lo := 0) (hi := 999) g0 (by omega) (by omega) with ⟨hc1, hm1, vb, bs, e1, e2, r1, r2⟩ | ⟨hk, ht, hc1, hc2, hm1, W1, Q1, g1, c1, hw, e1, e2, e3, r1, r2, r3⟩
  · obtain ⟨F, P, cf, fm⟩ := bs
    left
    have fm' : FM (sI hm1 18 (9 * s + K) vb) F P := FM_f (ag_c (by unfold kFM; omega)) fm
    have fm2 : FM (sI (sI hm1 18 (9 * s + K) vb) 17 s (nI (K + 1))) F P := FM_f (ag_c (by unfold kFM; omega)) fm'
    refine ⟨hc1, _, ⟨F, P, cf, fm2⟩, cRd_s (s2_r e1), eqE_sI (eqE_sI (mRd_s (sM_r e2)) (sc_18 (by omega))) (sc_s (by omega)), fun Q hq => r1 _ ⟨fun _ => hq, fun q => absurd rfl q⟩, fun Q hq => r2 _ ?_⟩
    rw [b1, ixs, p2, e9, ix_n (n := 9 * s + K) (by omega)]
    refine ⟨in18, fun h25 e25 => ?_⟩
    subst e25
    exact m_mustF fm' (last _ _ (by rw [gI_o _ _ (by decide), eqE_I e2 (by unfold sM; omega)]; exact b1) (by rw [gI_o _ _ (by decide), eqE_I e2 (by unfold sM; omega)]; exact p2) hq)
  · have kv := tv_in g0.1.1 hk
    have S1 := TS_f S0 g1 (by omega) (fun w => (hw.mp w).1) (eqE_trans (s2_r e1) (s2_r e2)) (sM_r e3)
    have gr : gR hc2 1 = d := S1.2.1.2.1
    have k0 : ¬ tbK T (t + 1 - 1) = 0 := by rw [Nat.add_sub_cancel]; omega
    have S1' := S1
    obtain ⟨_, _, ⟨b1', b2', b3', b4', b5', b6', b7', b8'⟩, ⟨n1', n2', n3'⟩, ⟨o1', o2'⟩, ⟨p1', p2'⟩, v'⟩ := S1'
    obtain ⟨hcW, x1, x2, x3, x4⟩ := c_bagAdd (x := nI (tv T t)) p1' hK
    let hmW := sI hm1 18 (9 * s + K) (nI (tv T t))
    have gW : GS T hcW hmW (t + 1) W1 Q1 := GS_f (agI_e x1 (fun a j q z => by unfold kGC at q; omega)) (ag_c (by unfold kGM; omega)) g1
    have fcW : eqE (scrC d) hc hcW := eqE_trans (eqE_trans (cRd_s (s2_r e1)) (cRd_s (s2_r e2))) (eqE_w (fun a j q => by unfold scrC; omega) x1)
    have fmW : eqE (scrM s) hm hmW := eqE_sI (mRd_s (sM_r e3)) (sc_18 (by omega))
    have rcW : ∀ Q : Int32 → hp → Prop, w_X5_take hcW 59 (fun r54 h53 => (r54 = 0 → (Q 0 h53)) ∧ (¬ (r54 = 0) → (Q 1 h53))) → wcNum 261 hc Q := fun Q hq => r1 _ ⟨fun q => absurd q (by decide), fun _ => by
      unfold w_X5_tellNumber w_X5_tellNumber_0
      refine takenH (k := 1) c1 (by omega) k0 (fun y ey => ?_)
      rw [Nat.add_sub_cancel, kv.2.2] at ey
      subst ey
      have fin : shC (gR hc2 1) = 7 ∧ w_X0_add ((gR hc2 1) + 15) hc2 (nI (tv T t)) (fun h19 => ((1 : Int32) = 0 → Q 0 h19) ∧ (¬ (1 : Int32) = 0 → w_X5_take h19 59 (fun r54 h53 => (r54 = 0 → (Q 0 h53)) ∧ (¬ (r54 = 0) → (Q 1 h53))))) := by
        rw [gr]
        exact ⟨shO7 a1, x4 _ ⟨fun q => absurd q (by decide), fun _ => hq⟩⟩
      exact ⟨fun q => absurd rfl q, fun _ => r2 _ (fun _ => fin) (fun _ => fin)⟩⟩
    have rmW : ∀ Q : hp → Prop, w_X12_must hmW 4 (fun h26 => vp_in (gI h26 0 19) 2 ∧ (vp_in (gI h26 0 19) 2 ∧ ∀ h27, h27 = sI h26 17 (ix (gI h26 0 19)) ((gI h26 17 (ix (gI h26 0 19))) + 1) → (Q h27))) → wmBag hm Q := fun Q hq => r3 _ (by
      rw [b1, ixs, p2, e9, ix_n (n := 9 * s + K) (by omega)]
      refine ⟨in18, fun h25 e25 => ?_⟩
      subst e25
      exact hq)
    have w19 : gI hmW 0 19 = nI s := by show gI (sI hm1 18 _ _) 0 19 = _; rw [gI_o _ _ (by decide)]; exact b1'
    have w17 : gI hmW 17 s = nI K := by show gI (sI hm1 18 _ _) 17 s = _; rw [gI_o _ _ (by decide)]; exact p2'
    rcases L_take (x := 4) (cx := 59) (mx := 4) gW (by omega) (by omega) rfl rfl with ⟨hc3, hm3, y1, y2, hk4, g3, u1, u2⟩ | ⟨hc3, hm3, y1, y2, ⟨F, P, cf, fm⟩, u1, u2⟩
    · right
      have z19 : gI hm3 0 19 = nI s := by rw [eqE_I y2 (by unfold sM; omega)]; exact w19
      have z17 : gI hm3 17 s = nI K := by rw [eqE_I y2 (by unfold sM; omega)]; exact w17
      let hmZ := sI hm3 17 s (nI (K + 1))
      have ac : ∀ X : Nat → Nat → Prop, (∀ a j, X a j → 15 ≤ a ∧ ¬ (a = d + 15 ∧ j = 0) ∧ ¬ a = d + 16) → agI X hc2 hc3 := fun X q => agI_t (agI_e x1 (fun a j z z' => by have := q a j z; omega)) (agI_e y1 (fun a j z z' => by have := q a j z; unfold s2 at z'; omega))
      have am : ∀ X : Nat → Nat → Prop, (∀ a j, X a j → ¬ a = 0 ∧ ¬ a = 18 ∧ ¬ a = 17) → agI X hm1 hmZ := fun X q => agI_sI (agI_t (ag_c (fun z => (q _ _ z).2.1 rfl)) (agI_e y2 (fun a j z z' => by have := q a j z; unfold sM at z'; omega))) (fun z => (q _ _ z).2.2 rfl)
      have m0 : ∀ j, ¬ sM 0 j → gI hmZ 0 j = gI hm1 0 j := fun j n => by
        show gI (sI hm3 17 _ _) 0 j = _
        rw [gI_o _ _ (by decide), eqE_I y2 n]; show gI (sI hm1 18 _ _) 0 j = _; rw [gI_o _ _ (by decide)]
      have cN : ∀ a j, 15 ≤ a → ¬ (a = d + 15 ∧ j = 0) → ¬ a = d + 16 → gI hc3 a j = gI hc2 a j := fun a j h1 h2 h3 => by rw [eqE_I y1 (by unfold s2; omega), eqE_I x1 (by omega)]
      have mN : ∀ a, ¬ a = 0 → ¬ a = 18 → ¬ a = 17 → ∀ j, gI hmZ a j = gI hm1 a j := fun a h1 h2 h3 j => by
        show gI (sI hm3 17 _ _) a j = _
        rw [gI_o _ _ h3, eqE_I y2 (by unfold sM; omega)]; show gI (sI hm1 18 _ _) a j = _; rw [gI_o _ _ h2]
      have c15 : gI hc3 (d + 15) 0 = nI (K + 1) := by rw [eqE_I y1 (by unfold s2; omega)]; exact x2
      have SZ : TS T hc3 hmZ d s (t + 1 + 1) W1 Q1 R NS (K + 1) f B := by
        refine TS_w2 S1 (GS_f (agI_r _) (ag_c (by unfold kGM; omega)) g3) (fun i => by rw [y1.2, x1.2]) (m0 19 (by unfold sM; omega)) (by rw [m0 12 (by unfold sM; omega)]; exact b2') (by rw [m0 37 (by unfold sM; omega)]; exact b3') (by rw [m0 43 (by unfold sM; omega)]; exact b4') (Nat.le_refl _) (by omega) (Nat.le_refl _) (by omega) ⟨a4, a5, by omega⟩ ⟨by rw [cN d 0 (by omega) (by omega) (by omega)]; exact n1', by rw [mN 9 (by decide) (by decide) (by decide)]; exact n2', by rw [m0 20 (by unfold sM; omega)]; exact n3'⟩ ⟨by rw [cN _ 0 (by omega) (by omega) (by omega)]; exact o1', by rw [mN 13 (by decide) (by decide) (by decide)]; exact o2'⟩ ⟨c15, gI_at _ _ _ _⟩ (fun w => ?_)
        obtain ⟨v1, v2, v3, ⟨C, ⟨q1, q2⟩, ⟨q3, q4⟩, q5, q6⟩, v5, v6, v7⟩ := v' w
        have hv := ((hw.mp w).2).2
        refine ⟨dRow_f (ac _ (fun a j q => by unfold kRwC at q; omega)) (am _ (fun a j q => by unfold kRwM at q; omega)) v1, dShr_f a5 (ac _ (fun a j q => by unfold kShC at q; omega)) (am _ (fun a j q => by unfold kShM at q; omega)) v2, dPri_f (ac _ (fun a j q => by unfold kPrC at q; omega)) (am _ (fun a j q => by unfold kPrM at q; omega)) v3, ⟨fun k => if k = K then tv T t else C k, ⟨by omega, fun k hk => ?_⟩, ⟨c15, fun set hs => ?_⟩, gI_at _ _ _ _, fun k hk => ?_⟩, dWld_f (ac _ (fun a j q => by unfold kWlC at q; omega)) (am _ (fun a j q => by unfold kWlM at q; omega)) v5, dLia_f (ac _ (fun a j q => by unfold kLiC at q; omega)) (am _ (fun a j q => by unfold kLiM at q; omega)) v6, dAsk_f (Nat.le_refl _) (Nat.le_refl _) (ac _ (fun a j q => by unfold kAsC at q; omega)) (am _ (fun a j q => by unfold kAsM at q; omega)) v7⟩
        · show (if k = K then tv T t else C k) ≤ 999
          split
          · exact hv
          · exact q2 k (by omega)
        · have ecg : ∀ set, bagS (fun k => if k = K then tv T t else C k) K set = bagS C K set := fun set => bagS_cg set K (fun k hk => if_neg (by omega))
          have eK : (fun k => if k = K then tv T t else C k) K = tv T t := if_pos rfl
          have pw : 2 ^ (K + 1) = 2 ^ K + 2 ^ K := by rw [Nat.pow_succ]; omega
          have pp : 0 < 2 ^ K := Nat.pow_pos (by omega)
          rw [eqE_I y1 (by unfold s2; omega)]
          by_cases hl : set < 2 ^ K
          · rw [show d + 16 = d + 15 + 1 from rfl, (x3 set hl).1, show d + 15 + 1 = d + 16 from rfl, q4 set hl]
            show _ = nI (bagS _ K set + (if set / 2 ^ K % 2 = 1 then _ else 0))
            rw [ecg, if_neg (by rw [Nat.div_eq_of_lt hl]; decide), Nat.add_zero]
          · obtain ⟨i, ei⟩ : ∃ i, set = 2 ^ K + i := ⟨set - 2 ^ K, by omega⟩
            subst ei
            have hi : i < 2 ^ K := by omega
            have top : (2 ^ K + i) / 2 ^ K % 2 = 1 := by
              have := Nat.mul_add_div pp 1 i
              rw [Nat.mul_one] at this
              rw [this, Nat.div_eq_of_lt hi]
            rw [show d + 16 = d + 15 + 1 from rfl, (x3 i hi).2, show d + 15 + 1 = d + 16 from rfl, q4 i hi]
            show _ = nI (bagS _ K (2 ^ K + i) + (if (2 ^ K + i) / 2 ^ K % 2 = 1 then _ else 0))
            rw [ecg, if_pos top, bagS_hi K (Nat.le_refl _), nI_add, show (fun k => if k = K then tv T t else C k) K = tv T t from if_pos rfl]
        · show gI (sI hm3 17 _ _) 18 _ = nI (if k = K then tv T t else C k)
          rw [gI_o _ _ (by decide), eqE_I y2 (by unfold sM; omega)]
          show gI (sI hm1 18 _ _) 18 _ = _
          by_cases z : k = K
          · subst z; rw [if_pos rfl]; exact gI_at _ _ _ _
          · rw [if_neg z, gI_k _ _ (by omega)]; exact q6 k (by omega)
      exact ⟨hc3, hmZ, t + 1 + 1, W1, Q1, R, NS, K + 1, f, B, SZ, by omega, eqE_trans fcW (cRd_s (s2_r y1)), eqE_sI (eqE_trans fmW (mRd_s (sM_r y2))) (sc_s (by omega)), fun Q hq => rcW Q (u1 _ ⟨fun q => absurd q (by decide), fun _ => hq⟩), fun Q hq => rmW Q (u2 _ (last _ _ z19 z17 hq))⟩
    · left
      have z19 : gI hm3 0 19 = nI s := by rw [eqE_I y2 (by unfold sM; omega)]; exact w19
      have z17 : gI hm3 17 s = nI K := by rw [eqE_I y2 (by unfold sM; omega)]; exact w17
      exact ⟨hc3, sI hm3 17 s (nI (K + 1)), ⟨F, P, cf, FM_f (ag_c (by unfold kFM; omega)) fm⟩, eqE_trans fcW (cRd_s (s2_r y1)), eqE_sI (eqE_trans fmW (mRd_s (sM_r y2))) (sc_s (by omega)), fun Q hq => rcW Q (u1 _ ⟨fun _ => hq, fun q => absurd rfl q⟩), fun Q hq => rmW Q (u2 _ (last _ _ z19 z17 hq))⟩
/-! asks -/
theorem cLaw_copy {o o' : Nat} {h h1 : hp} {L : Lw} (w : wfL L) (e2 : gI h1 o' 2 = gI h o 2) (e : ∀ j, j < 402 → gI h1 (o' + 1) j = gI h (o + 1) j ∧ gI h1 (o' + 2) j = gI h (o + 2) j) (a : cLaw o h L) : cLaw o' h1 L := by
  obtain ⟨n4, s0, wb, wl, w402, _⟩ := id w
  obtain ⟨a1, a2, a3, a4⟩ := a
  have lw : LDw (Lnb L) L.1 (Lst L) (Lmd L) (Lte L) := ⟨s0, wb⟩
  have ll := wl.1
  refine ⟨by rw [e2]; exact a1, fun b hb => ?_, fun c h1' h2' => ?_, ?_⟩
  · obtain ⟨d1, d2, d3, d4, d5⟩ := a2 b hb
    obtain ⟨y1, y2, y3, y4⟩ := LDw_k lw hb
    have y3 : Lte L b ≤ Lst L (b + 1) := y3
    have y4 : Lst L (b + 1) ≤ Lst L (Lnb L) := y4
    refine ⟨fun c h1' h2' => ?_, ?_, ?_, fun c h1' h2' => ?_, ?_⟩
    · have := d1 c h1' h2'
      exact ⟨by rw [(e _ (by omega)).1]; exact this.1, fun q => by rw [(e _ (by omega)).2]; exact this.2 q⟩
    · rw [(e _ (by omega)).1]; exact d2
    · rw [(e _ (by omega)).2]; exact d3
    · have := d4 c h1' h2'
      exact ⟨by rw [(e _ (by omega)).1]; exact this.1, fun q => by rw [(e _ (by omega)).2]; exact this.2 q⟩
    · rw [(e _ (by omega)).1]; exact d5
  · have := a3 c h1' h2'
    exact ⟨by rw [(e _ (by omega)).1]; exact this.1, fun q => by rw [(e _ (by omega)).2]; exact this.2 q⟩
  · rw [(e _ (by omega)).1]; exact a4
def lawCp (o : Nat) (h : hp) : hp := cI (cI (sI h o 2 (gI h 9 2)) 10 0 (o + 1) 0 402) 11 0 (o + 2) 0 402
theorem lawCp_e {o : Nat} {h : hp} : eqE (fun a j => (a = o ∧ j = 2) ∨ a = o + 1 ∨ a = o + 2) h (lawCp o h) := by
  refine ⟨fun a j n => ⟨?_, rfl⟩, fun _ => rfl⟩
  show (if a = o + 2 then _ else (if a = o + 1 then _ else gI (sI h o 2 _) a : Nat → Int32) : Nat → Int32) j = _
  rw [if_neg (by omega), if_neg (by omega), gI_sI, if_neg (by omega)]
theorem lawCp_v {o : Nat} {h : hp} (ho : 12 ≤ o) : gI (lawCp o h) o 2 = gI h 9 2 ∧ ∀ j, j < 402 → gI (lawCp o h) (o + 1) j = gI h (9 + 1) j ∧ gI (lawCp o h) (o + 2) j = gI h (9 + 2) j := by
  have cp : ∀ (f g : Nat → Int32) (j : Nat), j < 402 → va_cpy f g 0 0 402 j = f j := fun f g j hj => by
    unfold va_cpy
    rw [if_pos (by omega)]
    congr 1
    omega
  refine ⟨?_, fun j hj => ⟨?_, ?_⟩⟩
  · show (if o = o + 2 then _ else (if o = o + 1 then _ else gI (sI h o 2 _) o : Nat → Int32) : Nat → Int32) 2 = _
    rw [if_neg (by omega), if_neg (by omega)]; exact gI_at _ _ _ _
  · show (if o + 1 = o + 2 then _ else (if o + 1 = o + 1 then va_cpy (gI (sI h o 2 _) 10) _ 0 0 402 else _ : Nat → Int32) : Nat → Int32) j = _
    rw [if_neg (by omega), if_pos rfl, cp _ _ j hj, gI_o _ _ (by omega)]
  · show (if o + 2 = o + 2 then va_cpy (gI (cI (sI h o 2 _) 10 0 (o + 1) 0 402) 11) _ 0 0 402 else _ : Nat → Int32) j = _
    rw [if_pos rfl, cp _ _ j hj]
    show (if 11 = o + 1 then _ else gI (sI h o 2 _) 11 : Nat → Int32) j = _
    rw [if_neg (by omega), gI_o _ _ (by omega)]
def wcAsk (hc : hp) (Q : Int32 → hp → Prop) : Prop := w_X5_readLaw hc (fun r41 h40 => (r41 = 0 → (Q 0 h40)) ∧ (¬ (r41 = 0) → (w_X5_tellAsk h40 (fun r44 h43 => (r44 = 0 → (Q 0 h43)) ∧ (¬ (r44 = 0) → (Q 1 h43))))))
theorem T_ask {T : Tb} {hc hm : hp} {d s t W : Nat} {Q0 : Int32} {R NS K f B : Nat} (S : TS T hc hm d s t W Q0 R NS K f B) (hkw : 4 * f ≤ 4 * (130 * s) + t) : TOut T hc hm d s t (wcAsk hc) (fun Q => w_X12_tellLaw hm 0 Q) := by
  have S0 := S
  obtain ⟨g0, ⟨a1, a2, a3, a4, a5, a6⟩, ⟨b1, b2, b3, b4, b5, b6, b7, b8⟩, ⟨n1, n2, n3⟩, ⟨o1, o2⟩, ⟨p1, p2⟩, v⟩ := S
  have hd := O18 a1
  rcases L_law (s := s) (i := 0) (BT := 420 * s) (F0 := 130 * s) (by omega) (by omega) a3 (by omega) g0 b2 b3 b4 b1 b5 hkw b8 with ⟨hc1, hm1, bs, e1, e2, r1, r2⟩ | ⟨hc1, hm1, t1, L, ⟨g1, q2, q3, q4, q5, q6, q7, q8, q9, q10, q11, q12⟩, r1, r2⟩
  · exact Or.inl ⟨hc1, hm1, bs, l_sC e1, lz_sM (by omega) b5 b7 e2, fun Q hq => r1 _ ⟨fun _ => hq, fun q => absurd rfl q⟩, r2⟩
  · right
    have gr : gR hc1 1 = d := by rw [q11.2]; exact a2
    have lv := lawCp_v (o := d + 4) (h := hc1) (by omega)
    have le := lawCp_e (o := d + 4) (h := hc1)
    have ac : ∀ X : Nat → Nat → Prop, (∀ a j, X a j → 15 ≤ a ∧ ¬ (a = d + 4 ∧ j = 2) ∧ ¬ a = d + 5 ∧ ¬ a = d + 6) → agI X hc (lawCp (d + 4) hc1) := fun X q => agI_t (agI_e q11 (fun a j z z' => by have := q a j z; unfold lCs at z'; omega)) (agI_e le (fun a j z z' => by have := q a j z; omega))
    have am : ∀ X : Nat → Nat → Prop, (∀ a j, X a j → 8 ≤ a ∧ a ≤ 21) → agI X hm hm1 := fun X q => agI_e q12 (fun a j z z' => by have := q a j z; unfold lMz lMs at z'; omega)
    have cN : ∀ a, 15 ≤ a → ¬ a = d + 4 → ¬ a = d + 5 → ¬ a = d + 6 → ∀ j, gI (lawCp (d + 4) hc1) a j = gI hc a j := fun a h1 h2 h3 h4 j => by rw [eqE_I le (by omega), eqE_I q11 (by unfold lCs; omega)]
    have mN : ∀ a, 8 ≤ a → a ≤ 21 → ∀ j, gI hm1 a j = gI hm a j := fun a h1 h2 j => eqE_I q12 (by unfold lMz lMs; omega)
    have SZ : TS T (lawCp (d + 4) hc1) hm1 d s t1 W Q0 R NS K (f + Lnb L + 1) (B + Lst L (Lnb L + 1)) := by
      refine TS_w2 S0 (GS_f (agI_e le (fun a j q z => by unfold kGC at q; omega)) (agI_r _) g1) (fun i => by rw [le.2, q11.2]) (eqE_I q12 (by unfold lMz lMs; omega)) q6 q7 q8 (by omega) q9 (by omega) q10 ⟨a4, a5, a6⟩ ⟨by rw [cN d (by omega) (by omega) (by omega) (by omega)]; exact n1, by rw [mN 9 (by decide) (by decide)]; exact n2, by rw [eqE_I q12 (by unfold lMz lMs; omega)]; exact n3⟩ ⟨by rw [cN _ (by omega) (by omega) (by omega) (by omega)]; exact o1, by rw [mN 13 (by decide) (by decide)]; exact o2⟩ ⟨by rw [cN _ (by omega) (by omega) (by omega) (by omega)]; exact p1, by rw [mN 17 (by decide) (by decide)]; exact p2⟩ (fun w => ?_)
      obtain ⟨v1, v2, v3, v4, v5, v6, v7⟩ := v w
      exact ⟨dRow_f (ac _ (fun a j q => by unfold kRwC at q; omega)) (am _ (fun a j q => by unfold kRwM at q; omega)) v1, dShr_f a5 (ac _ (fun a j q => by unfold kShC at q; omega)) (am _ (fun a j q => by unfold kShM at q; omega)) v2, dPri_f (ac _ (fun a j q => by unfold kPrC at q; omega)) (am _ (fun a j q => by unfold kPrM at q; omega)) v3, dBag_f (ac _ (fun a j q => by unfold kBgC at q; omega)) (am _ (fun a j q => by unfold kBgM at q; omega)) v4, dWld_f (ac _ (fun a j q => by unfold kWlC at q; omega)) (am _ (fun a j q => by unfold kWlM at q; omega)) v5, dLia_f (ac _ (fun a j q => by unfold kLiC at q; omega)) (am _ (fun a j q => by unfold kLiM at q; omega)) v6, ⟨L, q3, cLaw_copy q3 lv.1 lv.2 q4, Or.inl ⟨f, B, b5, by omega, b7, by omega, q5⟩⟩⟩
    refine ⟨lawCp (d + 4) hc1, hm1, t1, W, Q0, R, NS, K, _, _, SZ, q2, eqE_trans (l_sC q11) (eqE_w (fun a j q => by unfold scrC; omega) le), lz_sM (by omega) b5 b7 q12, fun Q hq => r1 _ ⟨fun q => absurd q (by decide), fun _ => ?_⟩, r2⟩
    unfold w_X5_tellAsk w_X5_tellAsk_0 w_X2_copy w_X2_copy_0
    rw [gr]
    refine ⟨shO7 a1, fun h1 e1 => ⟨by decide, by decide, by decide, by decide, by decide, fun h2 e2 => ⟨by decide, by decide, by decide, by decide, by decide, fun h3 e3 => ?_⟩⟩⟩
    have : h3 = lawCp (d + 4) hc1 := by rw [e3, e2, e1]; rfl
    subst this
    exact ⟨fun q => absurd q (by decide), fun _ => hq⟩
theorem must1 {T : Tb} {hm : hp} {t W x : Nat} {Q0 : Int32} {Q : hp → Prop} (g : MH T hm t W Q0) (hx : x ≤ 36) (hk : tbK T t = x) (ht : t < 400) (hq : Q (mAdv hm t)) : w_X12_must hm (nI x) Q := by
  unfold w_X12_must w_X12_must_0
  exact isH g hx (fun _ => ⟨fun q => absurd q (by decide), fun _ => goes1 g ht hq⟩) (fun q => absurd hk q)
theorem must2 {T : Tb} {hm : hp} {t W x : Nat} {Q0 : Int32} {Q : hp → Prop} (g : MH T hm t W Q0) (hx : x ≤ 36) (hk : tbK T t = x) (ht : ¬ t < 400) (hq : Q (mSt T hm 2 t)) : w_X12_must hm (nI x) Q := by
  unfold w_X12_must w_X12_must_0
  exact isH g hx (fun _ => ⟨fun q => absurd q (by decide), fun _ => goes2 g ht hq⟩) (fun q => absurd hk q)
theorem must3 {T : Tb} {hm : hp} {t W x : Nat} {Q0 : Int32} {Q : hp → Prop} (g : MH T hm t W Q0) (hx : x ≤ 36) (hk : ¬ tbK T t = x) (hq : Q (mSt T hm 1 t)) : w_X12_must hm (nI x) Q := by
  unfold w_X12_must w_X12_must_0
  exact isH g hx (fun q => absurd q hk) (fun _ => ⟨fun _ => failH (F := 1) g hq, fun q => absurd rfl q⟩)
/-- a token of kind x, each side by itself -/
theorem L_takeH {T : Tb} {hc hm : hp} {t W W' x : Nat} {Q0 Q0' cx mx : Int32} (c : CH T hc t W Q0) (m : MH T hm t W' Q0') (hx1 : 1 ≤ x) (hx : x ≤ 36) (ec : cx = cK x) (em : mx = nI x) :
    (tbK T t = x ∧ t < 400 ∧ (∀ Q : Int32 → hp → Prop, Q 1 (cAdv hc t) → w_X5_take hc cx Q) ∧ (∀ Q : hp → Prop, Q (mAdv hm t) → w_X12_must hm mx Q)) ∨
    (∃ F, 1 ≤ F ∧ F ≤ 2 ∧ FM (mSt T hm F t) F (nI (tbS T t)) ∧ (∀ Q : Int32 → hp → Prop, Q 0 (cSt T hc F t) → w_X5_take hc cx Q) ∧ (∀ Q : hp → Prop, Q (mSt T hm F t) → w_X12_must hm mx Q)) := by
  subst ec em
  by_cases hk : tbK T t = x
  · by_cases ht : t < 400
    · exact Or.inl ⟨hk, ht, fun Q hq => take1 c hk ht hq, fun Q hq => must1 m hx hk ht hq⟩
    · exact Or.inr ⟨2, by omega, by omega, FM_st m (by omega) (by omega), fun Q hq => take2 c hk ht hq, fun Q hq => must2 m hx hk ht hq⟩
  · exact Or.inr ⟨1, by omega, by omega, FM_st m (by omega) (by omega), fun Q hq => take3 c hx hk hq, fun Q hq => must3 m hx hk hq⟩
/-- an int, each side by itself; what the reference notes is told by b -/
def bW (W : Nat) (b : Bool) : Nat := if b = true then nt W 5 else W
def bQ (W : Nat) (Q P : Int32) (b : Bool) : Int32 := if b = true then nq W Q P else Q
theorem bW_n0 {W : Nat} {b : Bool} (h : ¬ W = 0) : bW W b = W := by unfold bW nt; rw [if_neg h]; split <;> rfl
theorem bQ_n0 {W : Nat} {Q P : Int32} {b : Bool} (h : ¬ W = 0) : bQ W Q P b = Q := by unfold bQ nq; rw [if_neg h]; split <;> rfl
theorem bW_or {W : Nat} {b c : Bool} : bW (bW W b) c = bW W (b || c) := by
  cases b <;> cases c <;> (unfold bW; simp) <;> (unfold nt; split <;> simp)
theorem bQ_or {W : Nat} {Q P : Int32} {b c : Bool} : bQ (bW W b) (bQ W Q P b) P c = bQ W Q P (b || c) := by
  cases b <;> cases c <;> (unfold bQ bW; simp) <;> (unfold nq nt; split <;> simp)
theorem bW_0 {W : Nat} {b : Bool} : bW W b = 0 ↔ W = 0 ∧ b = false := by
  cases b
  · exact ⟨fun q => ⟨q, rfl⟩, fun q => q.1⟩
  · exact ⟨fun q => absurd q (nt_0 (by omega)), fun q => absurd q.2 (by decide)⟩
theorem bNok {T : Tb} {t W q : Nat} {Q : Int32} {b : Bool} (n : nOk T t W Q) (hq : q < t) : nOk T t (bW W b) (bQ W Q (nI (tbS T q)) b) := by
  cases b
  · exact n
  · exact nOk_nt n (by omega) (by omega) hq
theorem bPrv {T : Tb} {W q q' : Nat} {Q : Int32} {b : Bool} (p : prv T W Q 5 q) (hq : q ≤ q') : prv T (bW W b) (bQ W Q (nI (tbS T q)) b) 5 q' := by
  have p' : prv T W Q 5 q' := ⟨p.1, fun w => by
    obtain ⟨k, h1, h2⟩ := p.2 w
    exact ⟨k, h1, by omega⟩⟩
  cases b
  · exact p'
  · by_cases w : W = 0
    · refine ⟨?_, fun _ => ⟨q, ?_, by unfold bW nt; rw [if_pos rfl, if_pos w]; omega⟩⟩
      · unfold bW nt; rw [if_pos rfl, if_pos w]; omega
      · unfold bQ nq; rw [if_pos rfl, if_pos w]
    · rw [bW_n0 w, bQ_n0 w]; exact p'
def cNb (T : Tb) (h : hp) (W q : Nat) (b : Bool) : hp := if b = true then noteC T h W 5 q else h
theorem cNb_e {T : Tb} {h : hp} {W q : Nat} {b : Bool} : eqE s2 h (cNb T h W q b) := by
  cases b
  · exact eqE_refl _
  · exact noteC_e
theorem cNb_H {T : Tb} {h : hp} {t W q : Nat} {Q : Int32} {b : Bool} (c : CH T h t W Q) : CH T (cNb T h W q b) t (bW W b) (bQ W Q (nI (tbS T q)) b) := by
  cases b
  · exact c
  · exact CH_note c
def nIn (T : Tb) (q lo hi : Nat) : Bool := decide (¬ (lo ≤ tv T q ∧ tv T q ≤ hi))
theorem nIn_f {T : Tb} {q lo hi : Nat} : nIn T q lo hi = false ↔ (lo ≤ tv T q ∧ tv T q ≤ hi) := by unfold nIn; rw [decide_eq_false_iff_not, Decidable.not_not]
theorem withinB {T : Tb} {hc : hp} {t W k q lo hi : Nat} {Q0 : Int32} {Q : Int32 → hp → Prop} (g : CH T hc t W Q0) (hk : k + q = t) (hK : tbK T q = 2) (hlo : lo ≤ 999) (hhi : hi ≤ 999) (hW : W ≤ 5) (hq : Q (if nIn T q lo hi = true then 0 else 1) (cNb T hc W q (nIn T q lo hi))) : w_X5_takenWithin hc (nI k) (nI lo) (nI hi) Q := by
  have e : t - k = q := by omega
  refine withinH g (by omega) (by rw [e]; exact hK) hlo hhi hW (fun r => ?_) (fun r => ?_)
  · rw [e] at r
    have b : nIn T q lo hi = false := nIn_f.mpr r
    rw [b] at hq
    exact hq
  · rw [e] at r ⊢
    have b : nIn T q lo hi = true := by unfold nIn; exact decide_eq_true r
    rw [b] at hq
    exact hq
theorem boundB {T : Tb} {hm : hp} {t W lo hi : Nat} {Q0 : Int32} (g : MH T hm t W Q0) (p : prv T W Q0 5 t) (hK : tbK T t = 2) (hlo : lo ≤ 999) (hhi : hi ≤ 999) (ht : t < 400) : ∃ hm1, MH T hm1 (t + 1) (bW W (nIn T t lo hi)) (bQ W Q0 (nI (tbS T t)) (nIn T t lo hi)) ∧ eqE sM hm hm1 ∧ ∀ Q : Int32 → hp → Prop, Q (nI (tv T t)) hm1 → w_X12_bounded hm (nI lo) (nI hi) Q := by
  by_cases r : lo ≤ tv T t ∧ tv T t ≤ hi
  · rw [nIn_f.mpr r]
    exact ⟨mAdv hm t, MH_adv g ht (by omega), mAdv_e, fun Q hq => bnd1 g p hK hlo hhi ht (fun _ => hq) (fun n => absurd r n)⟩
  · have b : nIn T t lo hi = true := by unfold nIn; exact decide_eq_true r
    rw [b]
    exact ⟨mAdv (noteM T hm W 5 t) t, MH_adv (MH_note g) ht (by omega), eqE_trans noteM_e mAdv_e, fun Q hq => bnd1 g p hK hlo hhi ht (fun q => absurd q r) (fun _ => hq)⟩
theorem boundF {T : Tb} {hm : hp} {t W lo hi : Nat} {Q0 : Int32} (g : MH T hm t W Q0) (p : prv T W Q0 5 t) (hlo : lo ≤ 999) (hhi : hi ≤ 999) (h : ¬ (tbK T t = 2 ∧ t < 400)) : ∃ F hm1 v, 1 ≤ F ∧ F ≤ 2 ∧ FM hm1 F (nI (tbS T t)) ∧ eqE sM hm hm1 ∧ (∀ hc W Q0, CH T hc t W Q0 → ∀ Q : Int32 → hp → Prop, Q 0 (cSt T hc F t) → w_X5_take hc 3 Q) ∧ ∀ Q : Int32 → hp → Prop, Q v hm1 → w_X12_bounded hm (nI lo) (nI hi) Q := by
  by_cases hk : tbK T t = 2
  · have ht : ¬ t < 400 := fun q => h ⟨hk, q⟩
    obtain ⟨hm1, e1, f1, r1⟩ := bnd2 (lo := lo) (hi := hi) g p hk hlo hhi ht
    exact ⟨2, hm1, _, by omega, by omega, f1, e1, fun hc W Q0 c Q hq => take2 (x := 2) c hk ht hq, r1⟩
  · exact ⟨1, mSt T hm 1 t, nI lo, by omega, by omega, FM_st g (by omega) (by omega), mSt_e, fun hc W Q0 c Q hq => take3 (x := 2) c (by omega) hk hq, fun Q hq => bnd3 g hk hq⟩
/-! primes -/
def nPr (v : Nat) : Bool := decide (¬ (2 ≤ v ∧ v ≤ 97 ∧ ∀ k, k < v → 2 ≤ k → ¬ v % k = 0))
theorem nPr_f {v : Nat} : nPr v = false ↔ isPr v := by
  unfold nPr
  rw [decide_eq_false_iff_not, Decidable.not_not]
  exact ⟨fun q => ⟨⟨q.1, q.2.1⟩, fun k h1 h2 => q.2.2 k h2 h1⟩, fun q => ⟨q.1.1, q.1.2, fun k h1 h2 => q.2 k h2 h1⟩⟩
theorem c_isPrime {v : Nat} {Q : Int32 → Prop} (hv : v ≤ 9999) (hq : Q (if nPr v = true then 0 else 1)) : w_X5_isPrime (nI v) Q := by
  have q1 : isPr v → Q 1 := fun p => by rw [nPr_f.mpr p] at hq; exact hq
  have q0 : ¬ isPr v → Q 0 := fun p => by
    have : nPr v = true := by
      cases h : nPr v
      · exact absurd (nPr_f.mp h) p
      · rfl
    rw [this] at hq; exact hq
  have ev : (nI v).toInt = (v : Int) := n_toInt (by omega)
  unfold w_X5_isPrime w_X5_isPrime_0 w_X5_isPrime_2
  intro X hX
  have key : ∀ n k, n + k = v + 2 → 2 ≤ k → (∀ j, 2 ≤ j → j < k → j < v → ¬ v % j = 0) → X (nI k) := by
    intro n
    induction n with
    | zero =>
      intro k hn hk hj
      apply hX
      show w_X5_isPrime_b2 Q (nI v) X (nI k)
      unfold w_X5_isPrime_b2
      refine ⟨fun _ => c_within (fun r => ⟨isZ1, q1 ?_⟩) (fun r => ⟨isZ0, q0 (fun p => r ?_)⟩), fun c => absurd (nI_le (by omega) (by omega)) c⟩
      · rw [tL_int, ev] at r
        have h1 : (2 : Int) ≤ (v : Int) := r.1
        have h2 : (v : Int) ≤ 97 := r.2
        exact ⟨⟨by omega, by omega⟩, fun j a b => hj j a (by omega) b⟩
      · rw [tL_int, ev]
        exact ⟨by have := p.1.1; show (2 : Int) ≤ _; omega, by have := p.1.2; show _ ≤ (97 : Int); omega⟩
    | succ n ih =>
      intro k hn hk hj
      apply hX
      show w_X5_isPrime_b2 Q (nI v) X (nI k)
      unfold w_X5_isPrime_b2
      refine ⟨fun c => c_within (fun r => ⟨isZ1, q1 ?_⟩) (fun r => ⟨isZ0, q0 (fun p => r ?_)⟩), fun c => ⟨nI_ne0 (by omega) (by omega), ?_⟩⟩
      · rw [tL_int, ev] at r
        have h1 : (2 : Int) ≤ (v : Int) := r.1
        have h2 : (v : Int) ≤ 97 := r.2
        have c := (nI_leI (by omega) (by omega)).mp c
        exact ⟨⟨by omega, by omega⟩, fun j a b => hj j a (by omega) b⟩
      · rw [tL_int, ev]
        exact ⟨by have := p.1.1; show (2 : Int) ≤ _; omega, by have := p.1.2; show _ ≤ (97 : Int); omega⟩
      · have hkv : k < v := Nat.lt_of_not_le (fun q => c (nI_le q (by omega)))
        have z : nI (v % k) = 0 ↔ v % k = 0 := by
          have := Nat.mod_lt v (show 0 < k by omega)
          rw [show (0 : Int32) = nI 0 from rfl, nI_eq (by omega) (by omega)]
        rw [nI_rem (by omega) (by omega) (by omega), z]
        refine ⟨fun r y ey => ?_, fun r => q0 (fun p => p.2 k hk hkv r)⟩
        rw [← nI_succ] at ey
        subst ey
        refine ih (k + 1) (by omega) (by omega) (fun j a b c => ?_)
        by_cases e : j = k
        · subst e; exact r
        · exact hj j a (by omega) c
  exact key v 2 (by omega) (Nat.le_refl _) (fun j a b => by omega)
theorem m_primeLoop {T : Tb} {t q v : Nat} {Q : hp → Prop} (hv : v ≤ 9999) (q4 : q ≤ 400) (qc : q ≤ tbC T) {h : hp} {W : Nat} {Q0 : Int32} (g : MH T h t W Q0) (p : prv T W Q0 5 q) : ∃ h1 b, MH T h1 t (bW W b) (bQ W Q0 (nI (tbS T q)) b) ∧ eqE sM h h1 ∧ (b = true ↔ v ≤ 97 ∧ ∃ j, 2 ≤ j ∧ j < v ∧ v % j = 0) ∧ ∀ Q : hp → Prop, Q h1 → w_X12_tellPrime_38 Q (nI q) (nI v) 2 h := by
  have key : ∀ n k (g1 : hp) (b : Bool), n + k = v + 2 → 2 ≤ k → MH T g1 t (bW W b) (bQ W Q0 (nI (tbS T q)) b) → eqE sM h g1 → (b = true ↔ v ≤ 97 ∧ ∃ j, 2 ≤ j ∧ j < k ∧ j < v ∧ v % j = 0) → ∃ h1 b', MH T h1 t (bW W b') (bQ W Q0 (nI (tbS T q)) b') ∧ eqE sM h h1 ∧ (b' = true ↔ v ≤ 97 ∧ ∃ j, 2 ≤ j ∧ j < v ∧ v % j = 0) ∧ ∀ (Q : hp → Prop) (X : Int32 × hp → Prop), (∀ z, w_X12_tellPrime_b38 Q (nI q) (nI v) X z.1 z.2 → X z) → Q h1 → X (nI k, g1) := by
    intro n
    induction n with
    | zero =>
      intro k g1 b hn hk m e hb
      refine ⟨g1, b, m, e, ?_, fun Q X cl hq => cl _ ?_⟩
      · rw [hb]
        exact ⟨fun z => ⟨z.1, by obtain ⟨j, a, b, c, d⟩ := z.2; exact ⟨j, a, c, d⟩⟩, fun z => ⟨z.1, by obtain ⟨j, a, c, d⟩ := z.2; exact ⟨j, a, by omega, c, d⟩⟩⟩
      · exact ⟨fun _ => hq, fun c => absurd (show nI v ≤ nI k from nI_le (by omega) (by omega)) c⟩
    | succ n ih =>
      intro k g1 b hn hk m e hb
      by_cases hkv : k < v
      · have z : nI (v % k) = 0 ↔ v % k = 0 := by
          have := Nat.mod_lt v (show 0 < k by omega)
          rw [show (0 : Int32) = nI 0 from rfl, nI_eq (by omega) (by omega)]
        have hge : (98 : Int32) ≤ nI v ↔ 98 ≤ v := nI_leI (a := 98) (b := v) (by omega) (by omega)
        by_cases dv : v ≤ 97 ∧ v % k = 0
        · obtain ⟨h1, b', r1, r2, r3, r4⟩ := ih (k + 1) (noteM T g1 (bW W b) 5 q) (b || true) (by omega) (by omega) (by rw [← bW_or, ← bQ_or]; exact MH_note m) (eqE_trans e noteM_e) (by rw [Bool.or_true]; exact ⟨fun _ => ⟨dv.1, k, hk, by omega, hkv, dv.2⟩, fun _ => rfl⟩)
          refine ⟨h1, b', r1, r2, r3, fun Q X cl hq => cl _ ?_⟩
          show w_X12_tellPrime_b38 Q (nI q) (nI v) X (nI k) g1
          unfold w_X12_tellPrime_b38
          rw [nI_rem (by omega) (by omega) (by omega), z, hge]
          refine ⟨fun c => absurd c (nI_ge (by omega) (by omega)), fun _ => ⟨fun c => by omega, fun _ => ⟨nI_ne0 (by omega) (by omega), fun c => absurd dv.2 c, fun _ => amissH (F := 5) m (bPrv p (Nat.le_refl q)) (by omega) q4 qc (fun y ey => ?_)⟩⟩⟩
          rw [← nI_succ] at ey
          subst ey
          exact r4 Q X cl hq
        · obtain ⟨h1, b', r1, r2, r3, r4⟩ := ih (k + 1) g1 b (by omega) (by omega) m e (by
            rw [hb]
            refine ⟨fun z => ⟨z.1, ?_⟩, fun z => ⟨z.1, ?_⟩⟩
            · obtain ⟨j, a, b, c, d⟩ := z.2
              exact ⟨j, a, by omega, c, d⟩
            · obtain ⟨j, a, b, c, d⟩ := z.2
              by_cases ej : j = k
              · subst ej; exact absurd ⟨z.1, d⟩ dv
              · exact ⟨j, a, by omega, c, d⟩)
          refine ⟨h1, b', r1, r2, r3, fun Q X cl hq => cl _ ?_⟩
          have nx : ∀ y, y = nI k + 1 → X (y, g1) := fun y ey => by
            rw [← nI_succ] at ey
            subst ey
            exact r4 Q X cl hq
          show w_X12_tellPrime_b38 Q (nI q) (nI v) X (nI k) g1
          unfold w_X12_tellPrime_b38
          rw [nI_rem (by omega) (by omega) (by omega), z, hge]
          refine ⟨fun c => absurd c (nI_ge (by omega) (by omega)), fun _ => ⟨fun _ => nx, fun c => ⟨nI_ne0 (by omega) (by omega), fun _ => nx, fun d => absurd ⟨by omega, d⟩ dv⟩⟩⟩
      · refine ⟨g1, b, m, e, ?_, fun Q X cl hq => cl _ ?_⟩
        · rw [hb]
          exact ⟨fun z => ⟨z.1, by obtain ⟨j, a, b, c, d⟩ := z.2; exact ⟨j, a, c, d⟩⟩, fun z => ⟨z.1, by obtain ⟨j, a, c, d⟩ := z.2; exact ⟨j, a, by omega, c, d⟩⟩⟩
        · exact ⟨fun _ => hq, fun c => absurd (show nI v ≤ nI k from nI_le (by omega) (by omega)) c⟩
  obtain ⟨h1, b', r1, r2, r3, r4⟩ := key v 2 h false (by omega) (Nat.le_refl _) g (eqE_refl h) ⟨fun z => absurd z (by decide), fun z => by obtain ⟨_, j, a, b, _⟩ := z; omega⟩
  exact ⟨h1, b', r1, r2, r3, fun Q hq X hX => r4 Q X hX hq⟩
theorem T_pri {T : Tb} {hc hm : hp} {d s t W : Nat} {Q0 : Int32} {R NS K f B : Nat} (S : TS T hc hm d s t W Q0 R NS K f B) : TOut T hc hm d s t (wcNum 259 hc) (fun Q => w_X12_tellPrime hm Q) := by
  have S0 := S
  obtain ⟨g0, ⟨a1, a2, a3, a4, a5, a6⟩, ⟨b1, b2, b3, b4, b5, b6, b7, b8⟩, ⟨n1, n2, n3⟩, ⟨o1, o2⟩, ⟨p1, p2⟩, v⟩ := S
  have hd := O18 a1
  have gc := GS_c g0
  have gm := GS_m g0
  have nk := GS_n g0
  have pv := prv_n (F := 5) nk (Nat.le_refl t)
  have t4 := g0.1.2.2.2.1
  have ixs : ix (nI s) = s := ix_n (by omega)
  have ins : vp_in (nI s) 2 := in_n a3 (by omega)
  by_cases h : tbK T t = 2 ∧ t < 400
  · obtain ⟨hk, ht⟩ := h
    have kv := tv_in g0.1.1 hk
    have k0 : ¬ tbK T (t + 1 - 1) = 0 := by rw [Nat.add_sub_cancel]; omega
    have cA := CH_adv gc ht (by omega)
    obtain ⟨hmA, mA, eA, rA⟩ := boundB (lo := 2) (hi := 97) gm pv hk (by omega) (by omega) ht
    let hcB := if nPr (tv T t) = true then noteC T (cAdv hc t) W 5 t else sI (cAdv hc t) (d + 9) 1 (nI (tv T t))
    have eB : eqE (fun a j => (a = 2 ∧ j < 3) ∨ (a = d + 9 ∧ j = 1)) (cAdv hc t) hcB := by
      show eqE _ _ (if _ then _ else _)
      split
      · exact eqE_w (fun a j q => by unfold s2 at q; omega) noteC_e
      · exact eqE_sI (eqE_refl _) (by omega)
    have cB : CH T hcB (t + 1) (bW W (nPr (tv T t))) (bQ W Q0 (nI (tbS T t)) (nPr (tv T t))) := by
      show CH T (if _ then _ else _) _ (if _ then _ else _) (if _ then _ else _)
      split
      · exact CH_note cA
      · exact CH_f (ag_c (by unfold kGC; omega)) cA
    have rcB : ∀ Q : Int32 → hp → Prop, w_X5_take hcB 59 (fun r h => (r = 0 → Q 0 h) ∧ (¬ (r = 0) → Q 1 h)) → wcNum 259 hc Q := fun Q hq => take1 (x := 2) gc hk ht ⟨fun q => absurd q (by decide), fun _ => by
      unfold w_X5_tellNumber w_X5_tellNumber_0
      refine takenH (k := 1) cA (by omega) k0 (fun y ey => ?_)
      rw [Nat.add_sub_cancel, kv.2.2] at ey
      subst ey
      refine ⟨fun _ => ⟨fun _ => c_isPrime kv.1 ?_, fun q => absurd q (by decide)⟩, fun q => absurd q (by decide)⟩
      have hq : w_X5_take (if nPr (tv T t) = true then noteC T (cAdv hc t) W 5 t else sI (cAdv hc t) (d + 9) 1 (nI (tv T t))) 59 (fun r h => (r = 0 → Q 0 h) ∧ (¬ (r = 0) → Q 1 h)) := hq
      cases hb : nPr (tv T t)
      · rw [hb] at hq
        refine ⟨fun q => absurd q (by decide), fun _ => ?_⟩
        have gr : gR (cAdv hc t) 1 = d := a2
        rw [gr]
        refine ⟨shO7 a1, fun h11 e11 => ?_⟩
        subst e11
        exact ⟨fun q => absurd q (by decide), fun _ => hq⟩
      · rw [hb] at hq
        exact ⟨fun _ => noteH (F := 5) (k := 1) (q := t) cA (by omega) nk.1 ⟨fun q => absurd q (by decide), fun _ => hq⟩, fun q => absurd rfl q⟩⟩
    have fcB : eqE (scrC d) hc hcB := eqE_trans (cRd_s (s2_r cAdv_e)) (eqE_w (fun a j q => by unfold scrC; omega) eB)
    rcases L_takeH (x := 4) (cx := 59) (mx := 4) cB mA (by omega) (by omega) rfl rfl with ⟨hk4, ht4, r1, r2⟩ | ⟨F, f1, f2, fm, r1, r2⟩
    · have mB := MH_adv mA ht4 (by omega)
      have m19 : gI (mAdv hmA (t + 1)) 0 19 = nI s := by unfold mAdv; rw [gI_k _ _ (by decide), eqE_I eA (by unfold sM; omega)]; exact b1
      have mC : MH T (sI (mAdv hmA (t + 1)) 12 s (nI (tv T t))) (t + 1 + 1) (bW W (nIn T t 2 97)) (bQ W Q0 (nI (tbS T t)) (nIn T t 2 97)) := MH_f (ag_c (by unfold kGM; omega)) mB
      obtain ⟨hmZ, bz, mZ, eZ, iff, rZ⟩ := m_primeLoop (q := t) (v := tv T t) (Q := fun _ => True) kv.1 t4 g0.1.2.2.2.2.1 mC (bPrv pv (Nat.le_refl t))
      have bb : (nIn T t 2 97 || bz) = nPr (tv T t) := by
        cases hn : nIn T t 2 97
        · have r := nIn_f.mp hn
          rw [Bool.false_or]
          cases hp' : nPr (tv T t)
          · have pp := nPr_f.mp hp'
            cases hz : bz
            · rfl
            · obtain ⟨_, j, x1, x2, x3⟩ := iff.mp hz
              exact absurd x3 (pp.2 j x1 x2)
          · cases hz : bz
            · exfalso
              have : nPr (tv T t) = false := nPr_f.mpr ⟨⟨r.1, r.2⟩, fun k h1 h2 h3 => by
                have := iff.mpr ⟨r.2, k, h1, h2, h3⟩
                rw [hz] at this
                exact absurd this (by decide)⟩
              rw [hp'] at this
              exact absurd this (by decide)
            · rfl
        · rw [Bool.true_or]
          cases hp' : nPr (tv T t)
          · have pp := nPr_f.mp hp'
            have : nIn T t 2 97 = false := nIn_f.mpr ⟨pp.1.1, pp.1.2⟩
            rw [hn] at this
            exact absurd this (by decide)
          · rfl
      rw [bW_or, bQ_or, bb] at mZ
      right
      have gZ : GS T (cAdv hcB (t + 1)) hmZ (t + 1 + 1) _ _ := GS_mk (CH_adv cB ht4 (by omega)) mZ (bNok (nOk_s (nOk_s nk)) (by omega))
      have fmZ : eqE (fun a j => sM a j ∨ (a = 12 ∧ j = s)) hm hmZ := eqE_trans (eqE_trans (eqE_w (fun a j q => Or.inl q) eA) (eqE_sI (eqE_w (fun a j q => Or.inl q) mAdv_e) (Or.inr ⟨rfl, rfl⟩))) (eqE_w (fun a j q => Or.inl q) eZ)
      have fcZ : eqE (fun a j => (a = 2 ∧ j < 3) ∨ (a = d + 9 ∧ j = 1)) hc (cAdv hcB (t + 1)) := eqE_trans (eqE_w (fun a j q => by unfold s2 at q; omega) cAdv_e) (eqE_trans eB (eqE_w (fun a j q => by unfold s2 at q; omega) cAdv_e))
      clear iff bb
      have SZ : TS T (cAdv hcB (t + 1)) hmZ d s (t + 1 + 1) (bW W (nPr (tv T t))) (bQ W Q0 (nI (tbS T t)) (nPr (tv T t))) R NS K f B := by
        refine TS_w2 S0 gZ fcZ.2 (eqE_I fmZ (by unfold sM; omega)) (by rw [eqE_I fmZ (by unfold sM; omega)]; exact b2) (by rw [eqE_I fmZ (by unfold sM; omega)]; exact b3) (by rw [eqE_I fmZ (by unfold sM; omega)]; exact b4) (Nat.le_refl _) (by omega) (Nat.le_refl _) (by omega) ⟨a4, a5, a6⟩ ⟨by rw [eqE_I fcZ (by omega)]; exact n1, by rw [eqE_I fmZ (by unfold sM; omega)]; exact n2, by rw [eqE_I fmZ (by unfold sM; omega)]; exact n3⟩ ⟨by rw [eqE_I fcZ (by omega)]; exact o1, by rw [eqE_I fmZ (by unfold sM; omega)]; exact o2⟩ ⟨by rw [eqE_I fcZ (by omega)]; exact p1, by rw [eqE_I fmZ (by unfold sM; omega)]; exact p2⟩ (fun w => ?_)
        obtain ⟨w0, wb⟩ := bW_0.mp w
        obtain ⟨v1, v2, v3, v4, v5, v6, v7⟩ := v w0
        have ac : ∀ X : Nat → Nat → Prop, (∀ a j, X a j → ¬ a = 2 ∧ ¬ (a = d + 9 ∧ j = 1)) → agI X hc (cAdv hcB (t + 1)) := fun X q => agI_e fcZ (fun a j z z' => by have := q a j z; omega)
        have am : ∀ X : Nat → Nat → Prop, (∀ a j, X a j → ¬ a = 0 ∧ ¬ (a = 12 ∧ j = s)) → agI X hm hmZ := fun X q => agI_e fmZ (fun a j z z' => by have := q a j z; unfold sM at z'; omega)
        refine ⟨dRow_f (ac _ (fun a j q => by unfold kRwC at q; omega)) (am _ (fun a j q => by unfold kRwM at q; omega)) v1, dShr_f a5 (ac _ (fun a j q => by unfold kShC at q; omega)) (am _ (fun a j q => by unfold kShM at q; omega)) v2, ⟨tv T t, nPr_f.mp wb, ?_, ?_⟩, dBag_f (ac _ (fun a j q => by unfold kBgC at q; omega)) (am _ (fun a j q => by unfold kBgM at q; omega)) v4, dWld_f (ac _ (fun a j q => by unfold kWlC at q; omega)) (am _ (fun a j q => by unfold kWlM at q; omega)) v5, dLia_f (ac _ (fun a j q => by unfold kLiC at q; omega)) (am _ (fun a j q => by unfold kLiM at q; omega)) v6, dAsk_f (Nat.le_refl _) (Nat.le_refl _) (ac _ (fun a j q => by unfold kAsC at q; omega)) (am _ (fun a j q => by unfold kAsM at q; omega)) v7⟩
        · unfold cP
          rw [eqE_I (cAdv_e (hc := hcB) (t := t + 1)) (by unfold s2; omega)]
          show gI (if nPr (tv T t) = true then _ else _) _ _ = _
          rw [if_neg (by rw [wb]; decide)]
          exact gI_at _ _ _ _
        · rw [eqE_I eZ (by unfold sM; omega)]; exact gI_at _ _ _ _
      refine ⟨_, hmZ, t + 1 + 1, _, _, R, NS, K, f, B, SZ, by omega, eqE_trans fcB (cRd_s (s2_r cAdv_e)), eqE_trans (eqE_sI (eqE_trans (mRd_s (sM_r eA)) (mRd_s (sM_r mAdv_e))) (sc_s (by omega))) (mRd_s (sM_r eZ)), fun Q hq => rcB Q (r1 _ ⟨fun q => absurd q (by decide), fun _ => hq⟩), fun Q hq => ?_⟩
      unfold w_X12_tellPrime w_X12_tellPrime_0
      intro x1 e1
      rw [g0.2.2.1] at e1
      subst e1
      refine rA _ (r2 _ ⟨fun _ => ?_, fun q => absurd (by rw [mB.2.2.1]; decide) q⟩)
      rw [m19, ixs]
      refine ⟨ins, fun h6 e6 => ?_⟩
      subst e6
      exact rZ Q hq
    · left
      have mf : ∀ Q : hp → Prop, Q (mSt T hmA F (t + 1)) → w_X12_tellPrime hm Q := fun Q hq => by
        unfold w_X12_tellPrime w_X12_tellPrime_0
        intro x1 e1
        exact rA _ (r2 _ ⟨fun q => absurd q (FM_ne fm).2.1, fun _ => hq⟩)
      exact ⟨cSt T hcB F (t + 1), mSt T hmA F (t + 1), ⟨F, _, CF_st, fm⟩, eqE_trans fcB (cRd_s (s2_r cSt_e)), eqE_trans (mRd_s (sM_r eA)) (mRd_s (sM_r mSt_e)), fun Q hq => rcB Q (r1 _ ⟨fun _ => hq, fun q => absurd rfl q⟩), mf⟩
  · obtain ⟨F, hm1, vb, f1, f2, fm, e1, rc, rm⟩ := boundF (lo := 2) (hi := 97) gm pv (by omega) (by omega) h
    left
    refine ⟨cSt T hc F t, hm1, ⟨F, _, CF_st, fm⟩, cRd_s (s2_r cSt_e), mRd_s (sM_r e1), fun Q hq => rc hc W Q0 gc _ ⟨fun _ => hq, fun q => absurd rfl q⟩, fun Q hq => ?_⟩
    unfold w_X12_tellPrime w_X12_tellPrime_0
    intro x1 e1'
    exact rm _ (m_mustF fm ⟨fun q => absurd q (FM_ne fm).2.1, fun _ => hq⟩)
/-! the bounds of the worlds -/
def wcBnd (hc : hp) (Q : Int32 → hp → Prop) : Prop := w_X5_take hc 3 (fun r81 h80 => (r81 = 0 → (Q 0 h80)) ∧ (¬ (r81 = 0) → (w_X5_take h80 3 (fun r84 h83 => (r84 = 0 → (Q 0 h83)) ∧ (¬ (r84 = 0) → (w_X5_tellBound h83 (fun r87 h86 => (r87 = 0 → (Q 0 h86)) ∧ (¬ (r87 = 0) → (w_X5_take h86 59 (fun r90 h89 => (r90 = 0 → (Q 0 h89)) ∧ (¬ (r90 = 0) → (Q 1 h89))))))))))))
def wmBnd (hm : hp) (Q : hp → Prop) : Prop := w_X12_bounded hm 1 4 (fun r31 h30 => vp_in (gI hm 0 19) 2 ∧ ∀ h32, h32 = sI h30 19 (ix (gI hm 0 19)) r31 → (w_X12_bounded h32 1 9 (fun r34 h33 => vp_in (gI h32 0 19) 2 ∧ ∀ h35, h35 = sI h33 20 (ix (gI h32 0 19)) r34 → (w_X12_must h35 4 (fun h36 => Q h36)))))
def bndZ (T : Tb) (h : hp) (d W t : Nat) (b1 b2 : Bool) : hp := if b1 = true then cNb T h W t true else if b2 = true then cNb T h W (t + 1) true else sI (sI h d 7 (nI (tv T t))) d 8 (nI (tv T (t + 1)))
theorem bndZ_e {T : Tb} {h : hp} {d W t : Nat} {b1 b2 : Bool} : eqE (fun a j => (a = 2 ∧ j < 3) ∨ (a = d ∧ (j = 7 ∨ j = 8))) h (bndZ T h d W t b1 b2) := by
  unfold bndZ
  split
  · exact eqE_w (fun a j q => by unfold s2 at q; omega) cNb_e
  · split
    · exact eqE_w (fun a j q => by unfold s2 at q; omega) cNb_e
    · exact eqE_sI (eqE_sI (eqE_refl _) (by omega)) (by omega)
theorem bndZ_H {T : Tb} {h : hp} {d W t t2 : Nat} {Q0 : Int32} {b1 b2 : Bool} (hd : 15 ≤ d) (c : CH T h t2 W Q0) : CH T (bndZ T h d W t b1 b2) t2 (bW (bW W b1) b2) (bQ (bW W b1) (bQ W Q0 (nI (tbS T t)) b1) (nI (tbS T (t + 1))) b2) := by
  unfold bndZ
  cases b1
  · rw [if_neg (by decide)]
    cases b2
    · rw [if_neg (by decide)]
      exact CH_f (agI_sI (ag_c (by unfold kGC; omega)) (by unfold kGC; omega)) c
    · rw [if_pos rfl]
      exact cNb_H (b := true) c
  · have nz : ¬ bW W true = 0 := nt_0 (by omega)
    rw [if_pos rfl, bW_n0 nz, bQ_n0 nz]
    exact cNb_H (b := true) c
theorem c_tellBound {T : Tb} {h : hp} {d t W : Nat} {Q0 : Int32} {b1 b2 : Bool} {Q : Int32 → hp → Prop} (hd : isO d) (gr : gR h 1 = d) (c : CH T h (t + 1 + 1) W Q0) (hW : W ≤ 5) (hk : tbK T t = 2) (hk2 : tbK T (t + 1) = 2) (e1 : nIn T t 1 4 = b1) (e2 : nIn T (t + 1) 1 9 = b2) (hq : Q 1 (bndZ T h d W t b1 b2)) : w_X5_tellBound h Q := by
  have kv := tv_in c.1.1 hk
  have kv2 := tv_in c.1.1 hk2
  have hd' := O18 hd
  unfold bndZ at hq
  unfold w_X5_tellBound w_X5_tellBound_0
  refine withinB (k := 2) (q := t) (lo := 1) (hi := 4) c (by omega) hk (by omega) (by omega) hW ?_
  rw [e1]
  cases b1
  · rw [if_neg (by decide)] at hq ⊢
    refine ⟨fun q => absurd q (by decide), fun _ => ?_⟩
    show w_X5_takenWithin h 1 1 9 _
    refine withinB (k := 1) (q := t + 1) (lo := 1) (hi := 9) c (by omega) hk2 (by omega) (by omega) hW ?_
    rw [e2]
    cases b2
    · rw [if_neg (by decide)] at hq ⊢
      refine ⟨fun q => absurd q (by decide), fun _ => ?_⟩
      have e2' : t + 1 + 1 - 2 = t := by omega
      refine ⟨by show shC (gR h 1) = 7; rw [gr]; exact shO7 hd, takenH (k := 2) c (by omega) (by rw [e2']; omega) (fun h10 e10 => ?_)⟩
      rw [e2', kv.2.2] at e10
      have e10 : h10 = sI h (gR h 1) 7 (nI (tv T t)) := e10
      rw [gr] at e10
      subst e10
      have cc3 : CH T (sI h d 7 (nI (tv T t))) (t + 1 + 1) W Q0 := CH_f (ag_c (by unfold kGC; omega)) c
      have gr2 : gR (sI h d 7 (nI (tv T t))) 1 = d := gr
      rw [gr2]
      refine ⟨shO7 hd, takenH (k := 1) cc3 (by omega) (by rw [Nat.add_sub_cancel]; omega) (fun h14 e14 => ?_)⟩
      rw [Nat.add_sub_cancel, kv2.2.2] at e14
      subst e14
      exact hq
    · rw [if_pos rfl] at hq ⊢
      exact ⟨fun _ => hq, fun q => absurd rfl q⟩
  · rw [if_pos rfl] at hq ⊢
    exact ⟨fun _ => hq, fun q => absurd rfl q⟩
theorem T_wld {T : Tb} {hc hm : hp} {d s t W : Nat} {Q0 : Int32} {R NS K f B : Nat} (S : TS T hc hm d s t W Q0 R NS K f B) : TOut T hc hm d s t (wcBnd hc) (wmBnd hm) := by
  have S0 := S
  obtain ⟨g0, ⟨a1, a2, a3, a4, a5, a6⟩, ⟨b1, b2, b3, b4, b5, b6, b7, b8⟩, ⟨n1, n2, n3⟩, ⟨o1, o2⟩, ⟨p1, p2⟩, v⟩ := S
  have hd := O18 a1
  have gc := GS_c g0
  have gm := GS_m g0
  have nk := GS_n g0
  have pv := prv_n (F := 5) nk (Nat.le_refl t)
  have t4 := g0.1.2.2.2.1
  have ixs : ix (nI s) = s := ix_n (by omega)
  have ins : vp_in (nI s) 2 := in_n a3 (by omega)
  by_cases h : tbK T t = 2 ∧ t < 400
  · obtain ⟨hk, ht⟩ := h
    have kv := tv_in g0.1.1 hk
    have cA := CH_adv gc ht (by omega)
    obtain ⟨hmA, mA, eA, rA⟩ := boundB (lo := 1) (hi := 4) gm pv hk (by omega) (by omega) ht
    let hmB := sI hmA 19 s (nI (tv T t))
    have mB : MH T hmB (t + 1) _ _ := MH_f (ag_c (by unfold kGM; omega)) mA
    have m19 : gI hmB 0 19 = nI s := by show gI (sI hmA 19 _ _) 0 19 = _; rw [gI_o _ _ (by decide), eqE_I eA (by unfold sM; omega)]; exact b1
    have fmB : eqE (scrM s) hm hmB := eqE_sI (mRd_s (sM_r eA)) (sc_s (by omega))
    have rmB : ∀ Q : hp → Prop, w_X12_bounded hmB 1 9 (fun r34 h33 => vp_in (nI s) 2 ∧ ∀ h35, h35 = sI h33 20 s r34 → (w_X12_must h35 4 (fun h36 => Q h36))) → wmBnd hm Q := fun Q hq => rA _ (by
      rw [b1, ixs]
      refine ⟨ins, fun h32 e32 => ?_⟩
      subst e32
      have m19' : gI (sI hmA 19 s (nI (tv T t))) 0 19 = nI s := m19
      rw [m19', ixs]
      exact hq)
    have pvB : prv T (bW W (nIn T t 1 4)) (bQ W Q0 (nI (tbS T t)) (nIn T t 1 4)) 5 (t + 1) := bPrv pv (by omega)
    by_cases h2 : tbK T (t + 1) = 2 ∧ t + 1 < 400
    · obtain ⟨hk2, ht2⟩ := h2
      have kv2 := tv_in g0.1.1 hk2
      have cA2 := CH_adv cA ht2 (by omega)
      obtain ⟨hmC, mC, eC, rC⟩ := boundB (lo := 1) (hi := 9) mB pvB hk2 (by omega) (by omega) ht2
      let hmD := sI hmC 20 s (nI (tv T (t + 1)))
      have mD : MH T hmD (t + 1 + 1) _ _ := MH_f (ag_c (by unfold kGM; omega)) mC
      have fmD : eqE (fun a j => sM a j ∨ ((a = 19 ∨ a = 20) ∧ j = s)) hm hmD := eqE_sI (eqE_trans (eqE_sI (eqE_w (fun a j q => Or.inl q) eA) (Or.inr ⟨Or.inl rfl, rfl⟩)) (eqE_w (fun a j q => Or.inl q) eC)) (Or.inr ⟨Or.inr rfl, rfl⟩)
      have fmDs : eqE (scrM s) hm hmD := eqE_sI (eqE_trans fmB (mRd_s (sM_r eC))) (sc_s (by omega))
      have rmD : ∀ Q : hp → Prop, w_X12_must hmD 4 Q → wmBnd hm Q := fun Q hq => rmB Q (rC _ ⟨ins, fun h35 e35 => by subst e35; exact hq⟩)
      let hc2 := cAdv (cAdv hc t) (t + 1)
      obtain ⟨bx, ebx⟩ : ∃ b, nIn T t 1 4 = b := ⟨_, rfl⟩
      obtain ⟨by', eby⟩ : ∃ b, nIn T (t + 1) 1 9 = b := ⟨_, rfl⟩
      have cc2 : CH T hc2 (t + 1 + 1) W Q0 := cA2
      have cZ := bndZ_H (d := d) (t := t) (b1 := bx) (b2 := by') (by omega) cc2
      have mD' : MH T hmD (t + 1 + 1) (bW (bW W bx) by') (bQ (bW W bx) (bQ W Q0 (nI (tbS T t)) bx) (nI (tbS T (t + 1))) by') := by
        rw [ebx, eby] at mD
        exact mD
      have nkZ : nOk T (t + 1 + 1) (bW (bW W bx) by') (bQ (bW W bx) (bQ W Q0 (nI (tbS T t)) bx) (nI (tbS T (t + 1))) by') := bNok (bNok (nOk_s (nOk_s nk)) (by omega)) (by omega)
      have gZ := GS_mk cZ mD' nkZ
      have fcZ : eqE (fun a j => (a = 2 ∧ j < 3) ∨ (a = d ∧ (j = 7 ∨ j = 8))) hc (bndZ T hc2 d W t bx by') := eqE_trans (eqE_trans (eqE_w (fun a j q => by unfold s2 at q; omega) cAdv_e) (eqE_w (fun a j q => by unfold s2 at q; omega) cAdv_e)) bndZ_e
      have SZ : TS T (bndZ T hc2 d W t bx by') hmD d s (t + 1 + 1) (bW (bW W bx) by') (bQ (bW W bx) (bQ W Q0 (nI (tbS T t)) bx) (nI (tbS T (t + 1))) by') R NS K f B := by
        refine TS_w2 S0 gZ fcZ.2 (eqE_I fmD (by unfold sM; omega)) (by rw [eqE_I fmD (by unfold sM; omega)]; exact b2) (by rw [eqE_I fmD (by unfold sM; omega)]; exact b3) (by rw [eqE_I fmD (by unfold sM; omega)]; exact b4) (Nat.le_refl _) (by omega) (Nat.le_refl _) (by omega) ⟨a4, a5, a6⟩ ⟨by rw [eqE_I fcZ (by omega)]; exact n1, by rw [eqE_I fmD (by unfold sM; omega)]; exact n2, by rw [eqE_I fmD (by unfold sM; omega)]; exact n3⟩ ⟨by rw [eqE_I fcZ (by omega)]; exact o1, by rw [eqE_I fmD (by unfold sM; omega)]; exact o2⟩ ⟨by rw [eqE_I fcZ (by omega)]; exact p1, by rw [eqE_I fmD (by unfold sM; omega)]; exact p2⟩ (fun w => ?_)
        obtain ⟨w1, wb2⟩ := bW_0.mp w
        obtain ⟨w0, wb1⟩ := bW_0.mp w1
        obtain ⟨v1, v2, v3, v4, v5, v6, v7⟩ := v w0
        have ac : ∀ X : Nat → Nat → Prop, (∀ a j, X a j → ¬ a = 2 ∧ ¬ (a = d ∧ (j = 7 ∨ j = 8))) → agI X hc (bndZ T hc2 d W t bx by') := fun X q => agI_e fcZ (fun a j z z' => by have := q a j z; omega)
        have am : ∀ X : Nat → Nat → Prop, (∀ a j, X a j → ¬ a = 0 ∧ ¬ ((a = 19 ∨ a = 20) ∧ j = s)) → agI X hm hmD := fun X q => agI_e fmD (fun a j z z' => by have := q a j z; unfold sM at z'; omega)
        have i1 := nIn_f.mp (ebx.trans wb1)
        have i2 := nIn_f.mp (eby.trans wb2)
        have ez : bndZ T hc2 d W t bx by' = sI (sI hc2 d 7 (nI (tv T t))) d 8 (nI (tv T (t + 1))) := by rw [wb1, wb2]; rfl
        refine ⟨dRow_f (ac _ (fun a j q => by unfold kRwC at q; omega)) (am _ (fun a j q => by unfold kRwM at q; omega)) v1, dShr_f a5 (ac _ (fun a j q => by unfold kShC at q; omega)) (am _ (fun a j q => by unfold kShM at q; omega)) v2, dPri_f (ac _ (fun a j q => by unfold kPrC at q; omega)) (am _ (fun a j q => by unfold kPrM at q; omega)) v3, dBag_f (ac _ (fun a j q => by unfold kBgC at q; omega)) (am _ (fun a j q => by unfold kBgM at q; omega)) v4, ⟨tv T t, tv T (t + 1), ⟨i1.1, i1.2, i2.1, i2.2⟩, ?_, ?_, ?_, gI_at _ _ _ _⟩, dLia_f (ac _ (fun a j q => by unfold kLiC at q; omega)) (am _ (fun a j q => by unfold kLiM at q; omega)) v6, dAsk_f (Nat.le_refl _) (Nat.le_refl _) (ac _ (fun a j q => by unfold kAsC at q; omega)) (am _ (fun a j q => by unfold kAsM at q; omega)) v7⟩
        · rw [ez, gI_k _ _ (by decide)]; exact gI_at _ _ _ _
        · rw [ez]; exact gI_at _ _ _ _
        · show gI (sI hmC 20 s _) 19 s = _
          rw [gI_o _ _ (by decide), eqE_I eC (by unfold sM; omega)]; exact gI_at _ _ _ _
      exact L_semi SZ (by omega) (eqE_w (fun a j q => by unfold scrC; omega) fcZ) fmDs (fun Q hq => take1 (x := 2) gc hk ht ⟨fun q => absurd q (by decide), fun _ => take1 (x := 2) cA hk2 ht2 ⟨fun q => absurd q (by decide), fun _ => c_tellBound a1 a2 cc2 nk.1 hk hk2 ebx eby ⟨fun q => absurd q (by decide), fun _ => hq⟩⟩⟩) rmD
    · obtain ⟨F, hm1, vb, f1, f2, fm, e1, rc, rm⟩ := boundF (lo := 1) (hi := 9) mB pvB (by omega) (by omega) h2
      left
      have fm' : FM (sI hm1 20 s vb) F (nI (tbS T (t + 1))) := FM_f (ag_c (by unfold kFM; omega)) fm
      refine ⟨cSt T (cAdv hc t) F (t + 1), sI hm1 20 s vb, ⟨F, _, CF_st, fm'⟩, eqE_trans (cRd_s (s2_r cAdv_e)) (cRd_s (s2_r cSt_e)), eqE_sI (eqE_trans fmB (mRd_s (sM_r e1))) (sc_s (by omega)), fun Q hq => take1 (x := 2) gc hk ht ⟨fun q => absurd q (by decide), fun _ => rc _ W Q0 cA _ ⟨fun _ => hq, fun q => absurd rfl q⟩⟩, fun Q hq => rmB Q (rm _ ⟨ins, fun h35 e35 => ?_⟩)⟩
      subst e35
      exact m_mustF fm' hq
  · obtain ⟨F, hm1, vb, f1, f2, fm, e1, rc, rm⟩ := boundF (lo := 1) (hi := 4) gm pv (by omega) (by omega) h
    left
    have fm1 : FM (sI hm1 19 s vb) F (nI (tbS T t)) := FM_f (ag_c (by unfold kFM; omega)) fm
    have fm2 : FM (sI (sI hm1 19 s vb) 20 s 1) F (nI (tbS T t)) := FM_f (ag_c (by unfold kFM; omega)) fm1
    refine ⟨cSt T hc F t, sI (sI hm1 19 s vb) 20 s 1, ⟨F, _, CF_st, fm2⟩, cRd_s (s2_r cSt_e), eqE_sI (eqE_sI (mRd_s (sM_r e1)) (sc_s (by omega))) (sc_s (by omega)), fun Q hq => rc hc W Q0 gc _ ⟨fun _ => hq, fun q => absurd rfl q⟩, fun Q hq => rm _ ?_⟩
    rw [b1, ixs]
    refine ⟨ins, fun h32 e32 => ?_⟩
    subst e32
    have m19 : gI (sI hm1 19 s vb) 0 19 = nI s := by rw [gI_o _ _ (by decide), eqE_I e1 (by unfold sM; omega)]; exact b1
    refine m_boundedF fm1 ?_
    rw [m19, ixs]
    refine ⟨ins, fun h35 e35 => ?_⟩
    subst e35
    exact m_mustF fm2 hq
/-! shares -/
def dupI (g : Nat → Int32) (v : Int32) : Nat → Bool
  | 0 => false
  | n + 1 => dupI g v n || decide (g n = v)
theorem dupI_mono {g : Nat → Int32} {v : Int32} : ∀ n k, k ≤ n → dupI g v k = true → dupI g v n = true
  | 0, k, hk, h => by rw [show k = 0 from by omega] at h; exact h
  | n + 1, k, hk, h => by
    by_cases e : k = n + 1
    · subst e; exact h
    · show (dupI g v n || _) = true
      rw [dupI_mono n k (by omega) h, Bool.true_or]
theorem dupI_cg {g g' : Nat → Int32} {v : Int32} : ∀ n, (∀ k, k < n → g' k = g k) → dupI g' v n = dupI g v n
  | 0, _ => rfl
  | n + 1, h => by
    show (dupI g' v n || decide (g' n = v)) = (dupI g v n || decide (g n = v))
    rw [dupI_cg n (fun k hk => h k (by omega)), h n (by omega)]
theorem dupI_no {g : Nat → Int32} {v : Int32} : ∀ n, dupI g v n = false → ∀ k, k < n → ¬ g k = v
  | 0, _, k, hk => by omega
  | n + 1, h, k, hk => by
    have h : (dupI g v n || decide (g n = v)) = false := h
    rw [Bool.or_eq_false_iff] at h
    by_cases e : k = n
    · subst e; exact of_decide_eq_false h.2
    · exact dupI_no n h.1 k (by omega)
theorem c_isAt {o NS : Nat} {h : hp} {x : Int32} {Q : Int32 → Prop} (e : gI h o 0 = nI NS) (h8 : NS ≤ 8) (hq : Q (if dupI (gI h (o + 1)) x NS = true then 1 else 0)) : w_X6_isAt o h x Q := by
  unfold w_X6_isAt w_X6_isAt_0 w_X6_isAt_2
  intro X hX
  have key : ∀ n k, n + k = NS → dupI (gI h (o + 1)) x k = false → X (nI k) := by
    intro n
    induction n with
    | zero =>
      intro k hk hd
      have ek : k = NS := by omega
      subst ek
      apply hX
      show w_X6_isAt_b2 o Q x h X (nI k)
      unfold w_X6_isAt_b2
      rw [e]
      refine ⟨fun _ => ?_, fun c => absurd (nI_le (Nat.le_refl _) (by omega)) c⟩
      rw [hd] at hq; exact hq
    | succ n ih =>
      intro k hk hd
      apply hX
      show w_X6_isAt_b2 o Q x h X (nI k)
      unfold w_X6_isAt_b2
      rw [e, ix_n (n := k) (by omega)]
      refine ⟨fun c => absurd c (nI_ge (by omega) (by omega)), fun _ => ⟨in_n (by omega) (by omega), fun ne y ey => ?_, fun eq => ?_⟩⟩
      · rw [← nI_succ] at ey
        subst ey
        refine ih (k + 1) (by omega) ?_
        show (dupI _ x k || decide _) = false
        rw [hd, Bool.false_or]
        exact decide_eq_false ne
      · have : dupI (gI h (o + 1)) x NS = true := dupI_mono NS (k + 1) (by omega) (by
          show (dupI _ x k || decide _) = true
          rw [decide_eq_true eq, Bool.or_true])
        rw [this] at hq; exact hq
  exact key NS 0 (by omega) rfl
def shPut (h : hp) (d NS : Nat) (v1 v2 pl : Int32) : hp := sI (sI (sI (sI h (d + 9 + 1) NS v1) (d + 9 + 3) NS v2) (d + 9 + 2) NS pl) (d + 9) 0 (nI (NS + 1))
theorem c_shAdd {o NS : Nat} {h : hp} {x y z : Int32} {Q : hp → Prop} (e : gI h o 0 = nI NS) (h8 : NS < 8) (hq : Q (sI (sI (sI (sI h (o + 1) NS x) (o + 3) NS y) (o + 2) NS z) o 0 (nI (NS + 1)))) : w_X6_add o h x y z Q := by
  unfold w_X6_add w_X6_add_0
  rw [e]
  refine ⟨fun c => absurd c (nI_ge (a := NS) (b := 8) h8 (by omega)), fun _ => ⟨in_n h8 (by omega), fun h2 e2 => ?_⟩⟩
  rw [ix_n (n := NS) (by omega)] at e2
  subst e2
  rw [gI_o _ _ (by omega), e]
  refine ⟨in_n h8 (by omega), fun h3 e3 => ?_⟩
  rw [ix_n (n := NS) (by omega)] at e3
  subst e3
  rw [gI_o _ _ (by omega), gI_o _ _ (by omega), e]
  refine ⟨in_n h8 (by omega), fun h4 e4 h5 e5 => ?_⟩
  rw [ix_n (n := NS) (by omega)] at e4
  subst e4
  rw [gI_o _ _ (by omega), gI_o _ _ (by omega), gI_o _ _ (by omega), e, ← nI_succ] at e5
  subst e5
  exact hq
theorem c_share38 {T : Tb} {h : hp} {d t W NS : Nat} {Q0 x1 : Int32} {Q : Int32 → hp → Prop} (hd : isO d) (gr : gR h 1 = d) (c : CH T h (t + 1 + 1) W Q0) (hW : W ≤ 5) (hk2 : tbK T (t + 1) = 2) (hns : gI h (d + 9) 0 = nI NS) (h8 : NS < 8) (hq : Q 1 (shPut (cNb T h W (t + 1) (nIn T (t + 1) 0 96)) d NS x1 (nI (tv T (t + 1))) (nI (tbS T t)))) : w_X5_tellShare_38 Q x1 h := by
  have kv2 := tv_in c.1.1 hk2
  have hd' := O18 hd
  unfold w_X5_tellShare_38
  refine withinB (k := 1) (q := t + 1) (lo := 0) (hi := 96) c (by omega) hk2 (by omega) (by omega) hW ?_
  have cc := cNb_H (q := t + 1) (b := nIn T (t + 1) 0 96) c
  have en := cNb_e (T := T) (h := h) (W := W) (q := t + 1) (b := nIn T (t + 1) 0 96)
  have gr2 : gR (cNb T h W (t + 1) (nIn T (t + 1) 0 96)) 1 = d := by rw [en.2]; exact gr
  have e5 := (cc.1.2.1 t (by have := cc.1.2.2.1; omega) (by have := cc.1.2.2.2; omega)).2.1
  have et := cc.2.1
  have e9 : gI (cNb T h W (t + 1) (nIn T (t + 1) 0 96)) (d + 9) 0 = nI NS := by rw [eqE_I en (by unfold s2; omega)]; exact hns
  have t2 := cc.1.2.2.1
  show shC (gR _ 1) = 7 ∧ w_X5_taken _ 1 _
  rw [gr2]
  refine ⟨shO7 hd, takenH (k := 1) cc (by omega) (by rw [Nat.add_sub_cancel]; omega) ?_⟩
  rw [Nat.add_sub_cancel, kv2.2.2, et, show (2 : Int32) = nI 2 from rfl, nI_sub (by omega) (by omega), show t + 1 + 1 - 2 = t from by omega, ix_n (n := t) (by omega), e5]
  refine ⟨fun q => absurd q (nI_nlt (by omega) (by omega)), fun _ => ⟨in_n (by omega) (by omega), ?_⟩⟩
  unfold w_X5_tellShare_87
  exact c_shAdd e9 h8 hq
theorem c_tellShare {T : Tb} {h : hp} {d t W NS : Nat} {Q0 : Int32} {bd : Bool} {Q : Int32 → hp → Prop} (hd : isO d) (gr : gR h 1 = d) (c : CH T h (t + 1 + 1) W Q0) (hW : W ≤ 5) (hk : tbK T t = 2) (hk2 : tbK T (t + 1) = 2) (hns : gI h (d + 9) 0 = nI NS) (h8 : NS < 8) (ed : dupI (gI h (d + 9 + 1)) (nI (tv T t)) NS = bd) (hq : Q 1 (shPut (cNb T (cNb T h W t (nIn T t 1 96 || bd)) (bW W (nIn T t 1 96 || bd)) (t + 1) (nIn T (t + 1) 0 96)) d NS (nI (tv T t)) (nI (tv T (t + 1))) (nI (tbS T t)))) : w_X5_tellShare h Q := by
  have kv := tv_in c.1.1 hk
  have e2' : t + 1 + 1 - 2 = t := by omega
  have fin : ∀ b, (nIn T t 1 96 || bd) = b → w_X5_tellShare_38 Q (nI (tv T t)) (cNb T h W t b) := fun b eb => by
    rw [eb] at hq
    have en := cNb_e (T := T) (h := h) (W := W) (q := t) (b := b)
    have w5 : bW W b ≤ 5 := by unfold bW nt; split <;> (try split) <;> omega
    have hd' := O18 hd
    exact c_share38 hd (by rw [en.2]; exact gr) (cNb_H (q := t) (b := b) c) w5 hk2 (by rw [eqE_I en (by unfold s2; omega)]; exact hns) h8 hq
  unfold w_X5_tellShare w_X5_tellShare_0
  refine takenH (k := 2) c (by omega) (by rw [e2']; omega) (fun x ex => ?_)
  rw [e2', kv.2.2] at ex
  subst ex
  refine withinB (k := 2) (q := t) (lo := 1) (hi := 96) c (by omega) hk (by omega) (by omega) hW ?_
  cases hb : nIn T t 1 96
  · rw [if_neg (by decide)]
    refine ⟨fun q => absurd q (by decide), fun _ => ⟨by show shC (gR h 1) = 7; rw [gr]; exact shO7 hd, ?_⟩⟩
    show w_X6_isAt (gR h 1 + 9) h _ _
    rw [gr]
    refine c_isAt hns (by omega) ?_
    rw [ed]
    cases hbd : bd
    · rw [if_neg (by decide)]
      exact ⟨fun _ => fin false (by rw [hb, hbd]; rfl), fun q => absurd rfl q⟩
    · rw [if_pos rfl]
      exact ⟨fun q => absurd q (by decide), fun _ => noteH (F := 5) (k := 2) (q := t) c (by omega) hW (fin true (by rw [hbd, Bool.or_true]))⟩
  · rw [if_pos rfl]
    exact ⟨fun _ => fin true (by rw [hb, Bool.true_or]), fun q => absurd rfl q⟩
def wcShr (hc : hp) (Q : Int32 → hp → Prop) : Prop := w_X5_take hc 3 (fun r58 h57 => (r58 = 0 → (Q 0 h57)) ∧ (¬ (r58 = 0) → (w_X5_take h57 3 (fun r61 h60 => (r61 = 0 → (Q 0 h60)) ∧ (¬ (r61 = 0) → (w_X5_tellShare h60 (fun r64 h63 => (r64 = 0 → (Q 0 h63)) ∧ (¬ (r64 = 0) → (w_X5_take h63 59 (fun r67 h66 => (r67 = 0 → (Q 0 h66)) ∧ (¬ (r67 = 0) → (Q 1 h66))))))))))))
theorem m_shLoop {T : Tb} {t q NS s : Nat} {v : Int32} (hs : s < 2) (h8 : NS ≤ 8) (q4 : q ≤ 400) (qc : q ≤ tbC T) {h : hp} {W : Nat} {Q0 x1 : Int32} {b0 : Bool} (g : MH T h t (bW W b0) (bQ W Q0 (nI (tbS T q)) b0)) (p : prv T W Q0 5 q) (m19 : gI h 0 19 = nI s) (m13 : gI h 13 s = nI NS) : ∃ h1, MH T h1 t (bW W (b0 || dupI (fun k => gI h 14 (8 * s + k)) v NS)) (bQ W Q0 (nI (tbS T q)) (b0 || dupI (fun k => gI h 14 (8 * s + k)) v NS)) ∧ eqE sM h h1 ∧ ∀ Q : hp → Prop, w_X12_tellShare_86 Q x1 (nI q) v h1 → w_X12_tellShare_34 Q x1 (nI q) v 0 h := by
  have ixs : ix (nI s) = s := ix_n (by omega)
  have ins : vp_in (nI s) 2 := in_n hs (by omega)
  have key : ∀ n k (g1 : hp), n + k = NS → MH T g1 t (bW W (b0 || dupI (fun k => gI h 14 (8 * s + k)) v k)) (bQ W Q0 (nI (tbS T q)) (b0 || dupI (fun k => gI h 14 (8 * s + k)) v k)) → eqE sM h g1 → ∃ h1, MH T h1 t (bW W (b0 || dupI (fun k => gI h 14 (8 * s + k)) v NS)) (bQ W Q0 (nI (tbS T q)) (b0 || dupI (fun k => gI h 14 (8 * s + k)) v NS)) ∧ eqE sM h h1 ∧ ∀ (Q : hp → Prop) (X : Int32 × hp → Prop), (∀ z, w_X12_tellShare_b34 Q x1 (nI q) v X z.1 z.2 → X z) → w_X12_tellShare_86 Q x1 (nI q) v h1 → X (nI k, g1) := by
    intro n
    induction n with
    | zero =>
      intro k g1 hk m e
      have ek : k = NS := by omega
      subst ek
      refine ⟨g1, m, e, fun Q X cl hq => cl _ ?_⟩
      have e19 : gI g1 0 19 = nI s := by rw [eqE_I e (by unfold sM; omega)]; exact m19
      have e13 : gI g1 13 s = nI k := by rw [eqE_I e (by unfold sM; omega)]; exact m13
      show w_X12_tellShare_b34 Q x1 (nI q) v X (nI k) g1
      unfold w_X12_tellShare_b34
      rw [e19, ixs, e13]
      exact ⟨ins, fun _ => hq, fun c => absurd (nI_le (Nat.le_refl _) (by omega)) c⟩
    | succ n ih =>
      intro k g1 hk m e
      have e19 : gI g1 0 19 = nI s := by rw [eqE_I e (by unfold sM; omega)]; exact m19
      have e13 : gI g1 13 s = nI NS := by rw [eqE_I e (by unfold sM; omega)]; exact m13
      have e14 : gI g1 14 (8 * s + k) = gI h 14 (8 * s + k) := eqE_I e (by unfold sM; omega)
      have e8 : 8 * nI s + nI k = nI (8 * s + k) := by rw [show (8 : Int32) = nI 8 from rfl, nI_mul (by omega) (by omega) (by omega), nI_add]
      have in16 : vp_in (nI (8 * s + k)) 16 := in_n (by omega) (by omega)
      by_cases eq : gI h 14 (8 * s + k) = v
      · have dd : (b0 || dupI (fun k => gI h 14 (8 * s + k)) v (k + 1)) = ((b0 || dupI (fun k => gI h 14 (8 * s + k)) v k) || true) := by
          show (b0 || (dupI _ v k || decide (gI h 14 (8 * s + k) = v))) = _
          rw [decide_eq_true eq, Bool.or_assoc]
        obtain ⟨bk, ebk⟩ : ∃ b, (b0 || dupI (fun k => gI h 14 (8 * s + k)) v k) = b := ⟨_, rfl⟩
        rw [ebk] at m dd
        obtain ⟨h1, r1, r2, r3⟩ := ih (k + 1) (noteM T g1 (bW W bk) 5 q) (by omega) (by rw [dd, ← bW_or, ← bQ_or]; exact MH_note m) (eqE_trans e noteM_e)
        refine ⟨h1, r1, r2, fun Q X cl hq => cl _ ?_⟩
        show w_X12_tellShare_b34 Q x1 (nI q) v X (nI k) g1
        unfold w_X12_tellShare_b34
        rw [e19, ixs, e13, e8, ix_n (n := 8 * s + k) (by omega), e14]
        refine ⟨ins, fun c => absurd c (nI_ge (by omega) (by omega)), fun _ => ⟨fun z => absurd m.2.2.1 z, fun _ => ⟨in16, fun z => absurd eq z, fun _ => amissH (F := 5) m (bPrv p (Nat.le_refl q)) (by omega) q4 qc (fun y ey => ?_)⟩⟩⟩
        rw [← nI_succ] at ey
        subst ey
        exact r3 Q X cl hq
      · have dd : (b0 || dupI (fun k => gI h 14 (8 * s + k)) v (k + 1)) = (b0 || dupI (fun k => gI h 14 (8 * s + k)) v k) := by
          show (b0 || (dupI _ v k || decide (gI h 14 (8 * s + k) = v))) = _
          rw [decide_eq_false eq, Bool.or_false]
        obtain ⟨h1, r1, r2, r3⟩ := ih (k + 1) g1 (by omega) (by rw [dd]; exact m) e
        refine ⟨h1, r1, r2, fun Q X cl hq => cl _ ?_⟩
        show w_X12_tellShare_b34 Q x1 (nI q) v X (nI k) g1
        unfold w_X12_tellShare_b34
        rw [e19, ixs, e13, e8, ix_n (n := 8 * s + k) (by omega), e14]
        refine ⟨ins, fun c => absurd c (nI_ge (by omega) (by omega)), fun _ => ⟨fun z => absurd m.2.2.1 z, fun _ => ⟨in16, fun _ y ey => ?_, fun z => absurd z eq⟩⟩⟩
        rw [← nI_succ] at ey
        subst ey
        exact r3 Q X cl hq
  obtain ⟨h1, r1, r2, r3⟩ := key NS 0 h (by omega) (by show MH T h t (bW W (b0 || false)) (bQ W Q0 _ (b0 || false)); rw [Bool.or_false]; exact g) (eqE_refl h)
  exact ⟨h1, r1, r2, fun Q hq X hX => r3 Q X hX hq⟩
theorem T_shr {T : Tb} {hc hm : hp} {d s t W : Nat} {Q0 : Int32} {R NS K f B : Nat} (S : TS T hc hm d s t W Q0 R NS K f B) (hNS : NS < 8) : TOut T hc hm d s t (wcShr hc) (fun Q => w_X12_tellShare hm Q) := by
  have S0 := S
  obtain ⟨g0, ⟨a1, a2, a3, a4, a5, a6⟩, ⟨b1, b2, b3, b4, b5, b6, b7, b8⟩, ⟨n1, n2, n3⟩, ⟨o1, o2⟩, ⟨p1, p2⟩, v⟩ := S
  have hd := O18 a1
  have gc := GS_c g0
  have gm := GS_m g0
  have nk := GS_n g0
  have pv := prv_n (F := 5) nk (Nat.le_refl t)
  have t4 := g0.1.2.2.2.1
  have tc := g0.1.2.2.2.2.1
  have ixs : ix (nI s) = s := ix_n (by omega)
  have ins : vp_in (nI s) 2 := in_n a3 (by omega)
  have e8 : 8 * nI s + nI NS = nI (8 * s + NS) := by rw [show (8 : Int32) = nI 8 from rfl, nI_mul (by omega) (by omega) (by omega), nI_add]
  have in16 : vp_in (nI (8 * s + NS)) 16 := in_n (by omega) (by omega)
  -- into the reference's tell
  have mIn : ∀ Q : hp → Prop, w_X12_bounded hm 1 96 (fun r4 h3 => w_X12_tellShare_34 Q (nI (8 * s + NS)) (nI t) r4 0 h3) → w_X12_tellShare hm Q := fun Q hq => by
    unfold w_X12_tellShare w_X12_tellShare_0
    rw [b1, ixs, o2, e8]
    refine ⟨ins, fun x1 e1 x2 e2 => ?_⟩
    rw [g0.2.2.1] at e2
    subst e1 e2
    exact hq
  by_cases h : tbK T t = 2 ∧ t < 400
  · obtain ⟨hk, ht⟩ := h
    have kv := tv_in g0.1.1 hk
    have cA := CH_adv gc ht (by omega)
    obtain ⟨hmA, mA, eA, rA⟩ := boundB (lo := 1) (hi := 96) gm pv hk (by omega) (by omega) ht
    have m19A : gI hmA 0 19 = nI s := by rw [eqE_I eA (by unfold sM; omega)]; exact b1
    have m13A : gI hmA 13 s = nI NS := by rw [eqE_I eA (by unfold sM; omega)]; exact o2
    obtain ⟨hmL, mL, eL, rL⟩ := m_shLoop (x1 := nI (8 * s + NS)) (v := nI (tv T t)) a3 a5 t4 tc mA pv m19A m13A
    have eAL : eqE sM hm hmL := eqE_trans eA eL
    obtain ⟨bm, ebm⟩ : ∃ b, (nIn T t 1 96 || dupI (fun k => gI hmA 14 (8 * s + k)) (nI (tv T t)) NS) = b := ⟨_, rfl⟩
    rw [ebm] at mL
    let hmB := sI (sI hmL 14 (8 * s + NS) (nI (tv T t))) 16 (8 * s + NS) (nI t)
    have mB : MH T hmB (t + 1) (bW W bm) (bQ W Q0 (nI (tbS T t)) bm) := MH_f (agI_sI (ag_c (by unfold kGM; omega)) (by unfold kGM; omega)) mL
    have pvB : prv T (bW W bm) (bQ W Q0 (nI (tbS T t)) bm) 5 (t + 1) := bPrv pv (by omega)
    have fmB : eqE (fun a j => sM a j ∨ ((a = 14 ∨ a = 16) ∧ j = 8 * s + NS)) hm hmB := eqE_sI (eqE_sI (eqE_w (fun a j q => Or.inl q) eAL) (Or.inr ⟨Or.inl rfl, rfl⟩)) (Or.inr ⟨Or.inr rfl, rfl⟩)
    have fmBs : eqE (scrM s) hm hmB := eqE_sI (eqE_sI (mRd_s (sM_r eAL)) (sc_14 (by omega) (by omega))) (sc_14 (by omega) (by omega))
    have mInB : ∀ Q : hp → Prop, w_X12_bounded hmB 0 96 (fun r14 h13 => vp_in (nI (8 * s + NS)) 16 ∧ ∀ h15, h15 = sI h13 15 (8 * s + NS) r14 → (w_X12_must h15 4 (fun h16 => (¬ (gI h16 0 13) = 0 → (Q h16)) ∧ ((gI h16 0 13) = 0 → (vp_in (gI h16 0 19) 2 ∧ (vp_in (gI h16 0 19) 2 ∧ ∀ h18, h18 = sI h16 13 (ix (gI h16 0 19)) ((gI h16 13 (ix (gI h16 0 19))) + 1) → (Q h18))))))) → w_X12_tellShare hm Q := fun Q hq => mIn Q (rA _ (rL Q (by
      unfold w_X12_tellShare_86
      rw [ix_n (n := 8 * s + NS) (by omega)]
      refine ⟨in16, fun h11 e11 => ⟨in16, fun h12 e12 => ?_⟩⟩
      subst e11 e12
      exact hq)))
    by_cases h2 : tbK T (t + 1) = 2 ∧ t + 1 < 400
    · obtain ⟨hk2, ht2⟩ := h2
      have kv2 := tv_in g0.1.1 hk2
      have cA2 := CH_adv cA ht2 (by omega)
      obtain ⟨hmC, mC, eC, rC⟩ := boundB (lo := 0) (hi := 96) mB pvB hk2 (by omega) (by omega) ht2
      let hmD := sI hmC 15 (8 * s + NS) (nI (tv T (t + 1)))
      obtain ⟨b2', eb2⟩ : ∃ b, nIn T (t + 1) 0 96 = b := ⟨_, rfl⟩
      rw [eb2] at mC
      have mD : MH T hmD (t + 1 + 1) _ _ := MH_f (ag_c (by unfold kGM; omega)) mC
      have fmD : eqE (fun a j => sM a j ∨ ((a = 14 ∨ a = 15 ∨ a = 16) ∧ j = 8 * s + NS)) hm hmD := eqE_sI (eqE_trans (eqE_w (fun a j q => q.elim Or.inl (fun z => Or.inr ⟨by omega, z.2⟩)) fmB) (eqE_w (fun a j q => Or.inl q) eC)) (Or.inr ⟨by omega, rfl⟩)
      have fmDs : eqE (scrM s) hm hmD := eqE_sI (eqE_trans fmBs (mRd_s (sM_r eC))) (sc_14 (by omega) (by omega))
      have mInD : ∀ Q : hp → Prop, w_X12_must hmD 4 (fun h16 => (¬ (gI h16 0 13) = 0 → (Q h16)) ∧ ((gI h16 0 13) = 0 → (vp_in (gI h16 0 19) 2 ∧ (vp_in (gI h16 0 19) 2 ∧ ∀ h18, h18 = sI h16 13 (ix (gI h16 0 19)) ((gI h16 13 (ix (gI h16 0 19))) + 1) → (Q h18))))) → w_X12_tellShare hm Q := fun Q hq => mInB Q (rC _ ⟨in16, fun h15 e15 => by subst e15; exact hq⟩)
      let hc2 := cAdv (cAdv hc t) (t + 1)
      have cc2 : CH T hc2 (t + 1 + 1) W Q0 := cA2
      have fc2 : eqE s2 hc hc2 := eqE_trans cAdv_e cAdv_e
      have hns2 : gI hc2 (d + 9) 0 = nI NS := by rw [eqE_I fc2 (by unfold s2; omega)]; exact o1
      obtain ⟨bd, ebd⟩ : ∃ b, dupI (gI hc2 (d + 9 + 1)) (nI (tv T t)) NS = b := ⟨_, rfl⟩
      obtain ⟨bc, ebc⟩ : ∃ b, (nIn T t 1 96 || bd) = b := ⟨_, rfl⟩
      let hcN := cNb T (cNb T hc2 W t bc) (bW W bc) (t + 1) b2'
      have cN : CH T hcN (t + 1 + 1) (bW (bW W bc) b2') (bQ (bW W bc) (bQ W Q0 (nI (tbS T t)) bc) (nI (tbS T (t + 1))) b2') := cNb_H (cNb_H cc2)
      have eN : eqE s2 hc hcN := eqE_trans fc2 (eqE_trans cNb_e cNb_e)
      let hcZ := shPut hcN d NS (nI (tv T t)) (nI (tv T (t + 1))) (nI (tbS T t))
      have fcZ : eqE (fun a j => (a = 2 ∧ j < 3) ∨ (a = d + 9 ∧ j = 0) ∨ ((a = d + 10 ∨ a = d + 11 ∨ a = d + 12) ∧ j = NS)) hc hcZ := eqE_sI (eqE_sI (eqE_sI (eqE_sI (eqE_w (fun a j q => by unfold s2 at q; omega) eN) (by omega)) (by omega)) (by omega)) (by omega)
      have cZ : CH T hcZ (t + 1 + 1) _ _ := CH_f (agI_sI (agI_sI (agI_sI (ag_c (by unfold kGC; omega)) (by unfold kGC; omega)) (by unfold kGC; omega)) (by unfold kGC; omega)) cN
      have rcZ : ∀ Q : Int32 → hp → Prop, w_X5_take hcZ 59 (fun r h => (r = 0 → Q 0 h) ∧ (¬ (r = 0) → Q 1 h)) → wcShr hc Q := fun Q hq => take1 (x := 2) gc hk ht ⟨fun q => absurd q (by decide), fun _ => take1 (x := 2) cA hk2 ht2 ⟨fun q => absurd q (by decide), fun _ => c_tellShare a1 a2 cc2 nk.1 hk hk2 hns2 hNS ebd (by
        rw [ebc, eb2]
        exact ⟨fun q => absurd q (by decide), fun _ => hq⟩)⟩⟩
      have fcZs : eqE (scrC d) hc hcZ := eqE_w (fun a j q => by unfold scrC; omega) fcZ
      -- the same note
      have same : W = 0 → bc = bm := fun w => by
        obtain ⟨_, ⟨AT, WH, SK, q1, ⟨q2, q3⟩, ⟨q4, q5⟩, q6⟩, _⟩ := v w
        rw [← ebc, ← ebm, ← ebd]
        congr 1
        refine dupI_cg (g := fun k => gI hmA 14 (8 * s + k)) (g' := gI hc2 (d + 9 + 1)) NS (fun k hk => ?_)
        show gI hc2 (d + 9 + 1) k = gI hmA 14 (8 * s + k)
        rw [eqE_I fc2 (by unfold s2; omega), eqE_I eA (by unfold sM; omega), (q3 k hk).1, (q5 k hk).1]
      have WW : bW W bc = bW W bm ∧ bQ W Q0 (nI (tbS T t)) bc = bQ W Q0 (nI (tbS T t)) bm := by
        by_cases w : W = 0
        · rw [same w]; exact ⟨rfl, rfl⟩
        · rw [bW_n0 w, bW_n0 w, bQ_n0 w, bQ_n0 w]; exact ⟨rfl, rfl⟩
      rw [WW.1, WW.2] at cZ
      rcases L_takeH (x := 4) (cx := 59) (mx := 4) cZ mD (by omega) (by omega) rfl rfl with ⟨hk4, ht4, r1, r2⟩ | ⟨F, f1, f2, fm, r1, r2⟩
      · right
        let hcY := cAdv hcZ (t + 1 + 1)
        let hmY := sI (mAdv hmD (t + 1 + 1)) 13 s (nI (NS + 1))
        have cY : CH T hcY (t + 1 + 1 + 1) _ _ := CH_adv cZ ht4 (by omega)
        have mY0 := MH_adv mD ht4 (by omega)
        have mY : MH T hmY (t + 1 + 1 + 1) _ _ := MH_f (ag_c (by unfold kGM; omega)) mY0
        have gY : GS T hcY hmY (t + 1 + 1 + 1) _ _ := GS_mk cY mY (nOk_s (bNok (bNok (nOk_s (nOk_s nk)) (by omega)) (by omega)))
        have fcY : eqE (fun a j => (a = 2 ∧ j < 3) ∨ (a = d + 9 ∧ j = 0) ∨ ((a = d + 10 ∨ a = d + 11 ∨ a = d + 12) ∧ j = NS)) hc hcY := eqE_trans fcZ (eqE_w (fun a j q => by unfold s2 at q; omega) cAdv_e)
        have fmY : eqE (fun a j => sM a j ∨ ((a = 14 ∨ a = 15 ∨ a = 16) ∧ j = 8 * s + NS) ∨ (a = 13 ∧ j = s)) hm hmY := eqE_sI (eqE_trans (eqE_w (fun a j q => q.elim Or.inl (fun z => Or.inr (Or.inl z))) fmD) (eqE_w (fun a j q => Or.inl q) mAdv_e)) (Or.inr (Or.inr ⟨rfl, rfl⟩))
        have c9 : gI hcY (d + 9) 0 = nI (NS + 1) := by
          show gI (sI hcZ 2 2 _) (d + 9) 0 = _
          rw [gI_o _ _ (by omega)]; exact gI_at _ _ _ _
        have SZ : TS T hcY hmY d s (t + 1 + 1 + 1) (bW (bW W bm) b2') (bQ (bW W bm) (bQ W Q0 (nI (tbS T t)) bm) (nI (tbS T (t + 1))) b2') R (NS + 1) K f B := by
          refine TS_w2 S0 gY fcY.2 (eqE_I fmY (by unfold sM; omega)) (by rw [eqE_I fmY (by unfold sM; omega)]; exact b2) (by rw [eqE_I fmY (by unfold sM; omega)]; exact b3) (by rw [eqE_I fmY (by unfold sM; omega)]; exact b4) (Nat.le_refl _) (by omega) (Nat.le_refl _) (by omega) ⟨a4, by omega, a6⟩ ⟨by rw [eqE_I fcY (by omega)]; exact n1, by rw [eqE_I fmY (by unfold sM; omega)]; exact n2, by rw [eqE_I fmY (by unfold sM; omega)]; exact n3⟩ ⟨c9, gI_at _ _ _ _⟩ ⟨by rw [eqE_I fcY (by omega)]; exact p1, by rw [eqE_I fmY (by unfold sM; omega)]; exact p2⟩ (fun w => ?_)
          obtain ⟨w1, wb2⟩ := bW_0.mp w
          obtain ⟨w0, wb1⟩ := bW_0.mp w1
          have smb := same w0
          obtain ⟨v1, ⟨AT, WH, SK, q1, ⟨q2, q3⟩, ⟨q4, q5⟩, q6⟩, v3, v4, v5, v6, v7⟩ := v w0
          have ac : ∀ X : Nat → Nat → Prop, (∀ a j, X a j → ¬ a = 2 ∧ ¬ (a = d + 9 ∧ j = 0) ∧ ¬ (a = d + 10 ∨ a = d + 11 ∨ a = d + 12)) → agI X hc hcY := fun X q => agI_e fcY (fun a j z z' => by have := q a j z; omega)
          have am : ∀ X : Nat → Nat → Prop, (∀ a j, X a j → ¬ a = 0 ∧ ¬ (a = 13 ∨ a = 14 ∨ a = 15 ∨ a = 16)) → agI X hm hmY := fun X q => agI_e fmY (fun a j z z' => by have := q a j z; unfold sM at z'; omega)
          rw [wb1] at ebm
          rw [Bool.or_eq_false_iff] at ebm
          have i1 := nIn_f.mp ebm.1
          have i2 := nIn_f.mp (eb2.trans wb2)
          have nod := dupI_no NS ebm.2
          have e14A : ∀ k, k < NS → gI hmA 14 (8 * s + k) = nI (AT k) := fun k hk => by rw [eqE_I eA (by unfold sM; omega)]; exact (q5 k hk).1
          have atn : ∀ k, k < NS → ¬ AT k = tv T t := fun k hk e => nod k hk (by show gI hmA 14 (8 * s + k) = _; rw [e14A k hk, e])
          have upd : ∀ (A : Nat → Nat) (x k : Nat), k < NS → (if k = NS then x else A k) = A k := fun A x k hk => if_neg (by omega)
          refine ⟨dRow_f (ac _ (fun a j q => by unfold kRwC at q; omega)) (am _ (fun a j q => by unfold kRwM at q; omega)) v1, ⟨fun k => if k = NS then tv T t else AT k, fun k => if k = NS then tv T (t + 1) else WH k, fun k => if k = NS then t else SK k, fun i hi => ?_, ⟨c9, fun i hi => ?_⟩, ⟨gI_at _ _ _ _, fun i hi => ?_⟩, fun i hi => ?_⟩, dPri_f (ac _ (fun a j q => by unfold kPrC at q; omega)) (am _ (fun a j q => by unfold kPrM at q; omega)) v3, dBag_f (ac _ (fun a j q => by unfold kBgC at q; omega)) (am _ (fun a j q => by unfold kBgM at q; omega)) v4, dWld_f (ac _ (fun a j q => by unfold kWlC at q; omega)) (am _ (fun a j q => by unfold kWlM at q; omega)) v5, dLia_f (ac _ (fun a j q => by unfold kLiC at q; omega)) (am _ (fun a j q => by unfold kLiM at q; omega)) v6, dAsk_f (Nat.le_refl _) (Nat.le_refl _) (ac _ (fun a j q => by unfold kAsC at q; omega)) (am _ (fun a j q => by unfold kAsM at q; omega)) v7⟩
          · show 1 ≤ (if i = NS then tv T t else AT i) ∧ (if i = NS then tv T t else AT i) ≤ 96 ∧ (if i = NS then tv T (t + 1) else WH i) ≤ 96 ∧ ∀ j, j < NS + 1 → ¬ i = j → ¬ (if i = NS then tv T t else AT i) = (if j = NS then tv T t else AT j)
            by_cases z : i = NS
            · rw [if_pos z, if_pos z]
              refine ⟨i1.1, i1.2, i2.2, fun j hj n => ?_⟩
              rw [if_neg (by omega)]
              exact fun e => atn j (by omega) e.symm
            · obtain ⟨u1, u2, u3, u4⟩ := q1 i (by omega)
              rw [if_neg z, if_neg z]
              refine ⟨u1, u2, u3, fun j hj n => ?_⟩
              by_cases z' : j = NS
              · rw [if_pos z']; exact atn i (by omega)
              · rw [if_neg z']; exact u4 j (by omega) n
          · show gI hcY (d + 9 + 1) i = nI (if i = NS then tv T t else AT i) ∧ gI hcY (d + 9 + 3) i = nI (if i = NS then tv T (t + 1) else WH i)
            have g : ∀ a, ¬ a = 2 → gI hcY a i = gI hcZ a i := fun a n => by show gI (sI hcZ 2 2 _) a i = _; rw [gI_o _ _ n]
            rw [g _ (by omega), g _ (by omega)]
            by_cases z : i = NS
            · subst z
              rw [if_pos rfl, if_pos rfl]
              refine ⟨?_, ?_⟩
              · show gI (sI (sI (sI (sI hcN (d + 9 + 1) i _) (d + 9 + 3) i _) (d + 9 + 2) i _) (d + 9) 0 _) (d + 9 + 1) i = _
                rw [gI_o _ _ (by omega), gI_o _ _ (by omega), gI_o _ _ (by omega)]; exact gI_at _ _ _ _
              · show gI (sI (sI (sI (sI hcN (d + 9 + 1) i _) (d + 9 + 3) i _) (d + 9 + 2) i _) (d + 9) 0 _) (d + 9 + 3) i = _
                rw [gI_o _ _ (by omega), gI_o _ _ (by omega)]; exact gI_at _ _ _ _
            · rw [if_neg z, if_neg z, eqE_I fcZ (by omega), eqE_I fcZ (by omega)]
              exact q3 i (by omega)
          · show gI hmY 14 (8 * s + i) = nI (if i = NS then tv T t else AT i) ∧ gI hmY 15 (8 * s + i) = nI (if i = NS then tv T (t + 1) else WH i)
            by_cases z : i = NS
            · subst z
              rw [if_pos rfl, if_pos rfl]
              refine ⟨?_, ?_⟩
              · show gI (sI (mAdv hmD _) 13 s _) 14 _ = _
                rw [gI_o _ _ (by decide)]; show gI (sI hmD 0 11 _) 14 _ = _
                rw [gI_o _ _ (by decide)]; show gI (sI hmC 15 _ _) 14 _ = _
                rw [gI_o _ _ (by decide), eqE_I eC (by unfold sM; omega)]; show gI (sI (sI hmL 14 _ _) 16 _ _) 14 _ = _
                rw [gI_o _ _ (by decide)]; exact gI_at _ _ _ _
              · show gI (sI (mAdv hmD _) 13 s _) 15 _ = _
                rw [gI_o _ _ (by decide)]; show gI (sI hmD 0 11 _) 15 _ = _
                rw [gI_o _ _ (by decide)]; exact gI_at _ _ _ _
            · rw [if_neg z, if_neg z, eqE_I fmY (by unfold sM; omega), eqE_I fmY (by unfold sM; omega)]
              exact q5 i (by omega)
          · show (if i = NS then t else SK i) ≤ 400 ∧ (if i = NS then t else SK i) ≤ tbC T ∧ gI hcY (d + 9 + 2) i = nI (tbS T (if i = NS then t else SK i)) ∧ gI hmY 16 (8 * s + i) = nI (if i = NS then t else SK i)
            by_cases z : i = NS
            · subst z
              rw [if_pos rfl]
              refine ⟨t4, tc, ?_, ?_⟩
              · show gI (sI hcZ 2 2 _) _ i = _
                rw [gI_o _ _ (by omega)]; show gI (sI (sI (sI (sI hcN (d + 9 + 1) i _) (d + 9 + 3) i _) (d + 9 + 2) i _) (d + 9) 0 _) (d + 9 + 2) i = _
                rw [gI_o _ _ (by omega)]; exact gI_at _ _ _ _
              · show gI (sI (mAdv hmD _) 13 s _) 16 _ = _
                rw [gI_o _ _ (by decide)]; show gI (sI hmD 0 11 _) 16 _ = _
                rw [gI_o _ _ (by decide)]; show gI (sI hmC 15 _ _) 16 _ = _
                rw [gI_o _ _ (by decide), eqE_I eC (by unfold sM; omega)]; exact gI_at _ _ _ _
            · rw [if_neg z, eqE_I fcY (by omega), eqE_I fmY (by unfold sM; omega)]
              exact q6 i (by omega)
        have m19Y : gI (mAdv hmD (t + 1 + 1)) 0 19 = nI s := by unfold mAdv; rw [gI_k _ _ (by decide), eqE_I fmD (by unfold sM; omega)]; exact b1
        have m13Y : gI (mAdv hmD (t + 1 + 1)) 13 s = nI NS := by unfold mAdv; rw [gI_o _ _ (by decide), eqE_I fmD (by unfold sM; omega)]; exact o2
        refine ⟨hcY, hmY, t + 1 + 1 + 1, _, _, R, NS + 1, K, f, B, SZ, by omega, eqE_trans fcZs (cRd_s (s2_r cAdv_e)), eqE_sI (eqE_trans fmDs (mRd_s (sM_r mAdv_e))) (sc_s (by omega)), fun Q hq => rcZ Q (r1 _ ⟨fun q => absurd q (by decide), fun _ => hq⟩), fun Q hq => mInD Q (r2 _ ⟨fun q => absurd mY0.2.2.1 q, fun _ => ?_⟩)⟩
        rw [m19Y, ixs, m13Y]
        refine ⟨ins, ins, fun h18 e18 => ?_⟩
        rw [← nI_succ] at e18
        subst e18
        exact hq
      · left
        exact ⟨cSt T hcZ F (t + 1 + 1), mSt T hmD F (t + 1 + 1), ⟨F, _, CF_st, fm⟩, eqE_trans fcZs (cRd_s (s2_r cSt_e)), eqE_trans fmDs (mRd_s (sM_r mSt_e)), fun Q hq => rcZ Q (r1 _ ⟨fun _ => hq, fun q => absurd rfl q⟩), fun Q hq => mInD Q (r2 _ ⟨fun _ => hq, fun q => absurd q (FM_ne fm).1⟩)⟩
    · obtain ⟨F, hm1, vb, f1, f2, fm, e1, rc, rm⟩ := boundF (lo := 0) (hi := 96) mB pvB (by omega) (by omega) h2
      left
      have fm' : FM (sI hm1 15 (8 * s + NS) vb) F (nI (tbS T (t + 1))) := FM_f (ag_c (by unfold kFM; omega)) fm
      refine ⟨cSt T (cAdv hc t) F (t + 1), sI hm1 15 (8 * s + NS) vb, ⟨F, _, CF_st, fm'⟩, eqE_trans (cRd_s (s2_r cAdv_e)) (cRd_s (s2_r cSt_e)), eqE_sI (eqE_trans fmBs (mRd_s (sM_r e1))) (sc_14 (by omega) (by omega)), fun Q hq => take1 (x := 2) gc hk ht ⟨fun q => absurd q (by decide), fun _ => rc _ W Q0 cA _ ⟨fun _ => hq, fun q => absurd rfl q⟩⟩, fun Q hq => mInB Q (rm _ ⟨in16, fun h15 e15 => ?_⟩)⟩
      subst e15
      exact m_mustF fm' ⟨fun _ => hq, fun q => absurd q (FM_ne fm').1⟩
  · obtain ⟨F, hm1, vb, f1, f2, fm, e1, rc, rm⟩ := boundF (lo := 1) (hi := 96) gm pv (by omega) (by omega) h
    left
    have fm1 : FM (sI (sI hm1 14 (8 * s + NS) vb) 16 (8 * s + NS) (nI t)) F (nI (tbS T t)) := FM_f (agI_sI (ag_c (by unfold kFM; omega)) (by unfold kFM; omega)) fm
    have fm2 : FM (sI (sI (sI hm1 14 (8 * s + NS) vb) 16 (8 * s + NS) (nI t)) 15 (8 * s + NS) 0) F (nI (tbS T t)) := FM_f (ag_c (by unfold kFM; omega)) fm1
    refine ⟨cSt T hc F t, _, ⟨F, _, CF_st, fm2⟩, cRd_s (s2_r cSt_e), eqE_sI (eqE_sI (eqE_sI (mRd_s (sM_r e1)) (sc_14 (by omega) (by omega))) (sc_14 (by omega) (by omega))) (sc_14 (by omega) (by omega)), fun Q hq => rc hc W Q0 gc _ ⟨fun _ => hq, fun q => absurd rfl q⟩, fun Q hq => mIn Q (rm _ (fun X hX => ?_))⟩
    apply hX
    have m19 : gI hm1 0 19 = nI s := by rw [eqE_I e1 (by unfold sM; omega)]; exact b1
    have go : w_X12_tellShare_86 Q (nI (8 * s + NS)) (nI t) vb hm1 := by
      unfold w_X12_tellShare_86
      rw [ix_n (n := 8 * s + NS) (by omega)]
      refine ⟨in16, fun h11 e11 => ⟨in16, fun h12 e12 => ?_⟩⟩
      subst e11 e12
      refine m_boundedF fm1 ⟨in16, fun h15 e15 => ?_⟩
      subst e15
      exact m_mustF fm2 ⟨fun _ => hq, fun q => absurd q (FM_ne fm2).1⟩
    show w_X12_tellShare_b34 Q (nI (8 * s + NS)) (nI t) vb X 0 hm1
    unfold w_X12_tellShare_b34
    rw [m19]
    exact ⟨ins, fun _ => go, fun _ => ⟨fun _ => go, fun q => absurd q (FM_ne fm).1⟩⟩
/-! names -/
def dupB (g : Nat → Int64) (v : Int64) : Nat → Bool
  | 0 => false
  | n + 1 => dupB g v n || decide (g n = v)
theorem dupB_cg {g g' : Nat → Int64} {v : Int64} : ∀ n, (∀ k, k < n → g' k = g k) → dupB g' v n = dupB g v n
  | 0, _ => rfl
  | n + 1, h => by
    show (dupB g' v n || decide (g' n = v)) = (dupB g v n || decide (g n = v))
    rw [dupB_cg n (fun k hk => h k (by omega)), h n (by omega)]
def tW (W : Nat) (b : Bool) : Nat := if b = true then nt W 3 else W
def tQ (W : Nat) (Q P : Int32) (b : Bool) : Int32 := if b = true then nq W Q P else Q
theorem tW_n0 {W : Nat} {b : Bool} (h : ¬ W = 0) : tW W b = W := by unfold tW nt; rw [if_neg h]; split <;> rfl
theorem tQ_n0 {W : Nat} {Q P : Int32} {b : Bool} (h : ¬ W = 0) : tQ W Q P b = Q := by unfold tQ nq; rw [if_neg h]; split <;> rfl
theorem tW_or {W : Nat} {b c : Bool} : nt (tW W b) 3 = tW W (b || true) ∧ tW W (b || false) = tW W b := by
  cases b <;> (unfold tW; simp) <;> (unfold nt; split <;> simp)
theorem tQ_or {W : Nat} {Q P : Int32} {b : Bool} : nq (tW W b) (tQ W Q P b) P = tQ W Q P (b || true) := by
  cases b <;> (unfold tQ tW; simp) <;> (unfold nq nt; split <;> simp)
theorem tW_0 {W : Nat} {b : Bool} : tW W b = 0 ↔ W = 0 ∧ b = false := by
  cases b
  · exact ⟨fun q => ⟨q, rfl⟩, fun q => q.1⟩
  · exact ⟨fun q => absurd q (nt_0 (by omega)), fun q => absurd q.2 (by decide)⟩
theorem tNok {T : Tb} {t W q : Nat} {Q : Int32} {b : Bool} (n : nOk T t W Q) (hq : q < t) : nOk T t (tW W b) (tQ W Q (nI (tbS T q)) b) := by
  cases b
  · exact n
  · exact nOk_nt n (by omega) (by omega) hq
theorem tPrv {T : Tb} {W q : Nat} {Q : Int32} {b : Bool} (p : prv T W Q 3 q) : prv T (tW W b) (tQ W Q (nI (tbS T q)) b) 3 q := by
  cases b
  · exact p
  · exact prv_same p (by omega)
def cN3 (T : Tb) (h : hp) (W q : Nat) (b : Bool) : hp := if b = true then noteC T h W 3 q else h
theorem cN3_e {T : Tb} {h : hp} {W q : Nat} {b : Bool} : eqE s2 h (cN3 T h W q b) := by
  cases b
  · exact eqE_refl _
  · exact noteC_e
theorem cN3_H {T : Tb} {h : hp} {t W q : Nat} {Q : Int32} {b : Bool} (c : CH T h t W Q) : CH T (cN3 T h W q b) t (tW W b) (tQ W Q (nI (tbS T q)) b) := by
  cases b
  · exact c
  · exact CH_note c
theorem c_tellName {h : hp} {d R : Nat} {v : Int64} {Q : Int32 → hp → Prop} (e : gI h d 0 = nI R) (hR : R < 6) (hq : Q (if dupB (gL h (d + 2)) v R = true then 0 else 1) (sL h (d + 2) R v)) : w_X7_tellName d h v Q := by
  unfold w_X7_tellName w_X7_tellName_0 w_X7_tellName_5
  intro X hX
  have key : ∀ n k, n + k = R → X ((if dupB (gL h (d + 2)) v k = true then 0 else 1), nI k) := by
    intro n
    induction n with
    | zero =>
      intro k hk
      have ek : k = R := by omega
      subst ek
      apply hX
      show w_X7_tellName_b5 d Q v h X _ (nI k)
      unfold w_X7_tellName_b5
      rw [e]
      refine ⟨fun _ => ⟨fun c => absurd c (nI_ge (a := k) (b := 6) hR (by omega)), fun _ => ⟨in_n hR (by omega), fun h3 e3 => ?_⟩⟩, fun c => absurd (nI_le (Nat.le_refl _) (by omega)) c⟩
      rw [ix_n (n := k) (by omega)] at e3
      subst e3
      refine ⟨?_, hq⟩
      split
      · exact isZ0
      · exact isZ1
    | succ n ih =>
      intro k hk
      have nx := ih (k + 1) (by omega)
      apply hX
      show w_X7_tellName_b5 d Q v h X _ (nI k)
      unfold w_X7_tellName_b5
      rw [e, ix_n (n := k) (by omega)]
      have dd : dupB (gL h (d + 2)) v (k + 1) = (dupB (gL h (d + 2)) v k || decide (gL h (d + 2) k = v)) := rfl
      refine ⟨fun c => absurd c (nI_ge (by omega) (by omega)), fun _ => ⟨in_n (by omega) (by omega), fun ne y ey => ?_, fun eq y ey => ?_⟩⟩
      · rw [← nI_succ] at ey
        subst ey
        rw [dd, decide_eq_false ne, Bool.or_false] at nx
        exact nx
      · rw [← nI_succ] at ey
        subst ey
        rw [dd, decide_eq_true eq, Bool.or_true] at nx
        exact nx
  exact key R 0 (by omega)
theorem m_nameLoop {T : Tb} {t q R : Nat} {v : Int64} (hR : R ≤ 6) (q4 : q ≤ 400) (qc : q ≤ tbC T) {h : hp} {W : Nat} {Q0 : Int32} (g : MH T h t W Q0) (p : prv T W Q0 3 q) (m20 : gI h 0 20 = nI R) (m6 : gL h 6 q = v) : ∃ h1, MH T h1 t (tW W (dupB (gL h 8) v R)) (tQ W Q0 (nI (tbS T q)) (dupB (gL h 8) v R)) ∧ eqE sM h h1 ∧ ∀ Q : Int32 → hp → Prop, Q (nI q) h1 → w_X12_named_12 Q (nI q) 0 h := by
  have key : ∀ n k (g1 : hp), n + k = R → MH T g1 t (tW W (dupB (gL h 8) v k)) (tQ W Q0 (nI (tbS T q)) (dupB (gL h 8) v k)) → eqE sM h g1 → ∃ h1, MH T h1 t (tW W (dupB (gL h 8) v R)) (tQ W Q0 (nI (tbS T q)) (dupB (gL h 8) v R)) ∧ eqE sM h h1 ∧ ∀ (Q : Int32 → hp → Prop) (X : Int32 × hp → Prop), (∀ z, w_X12_named_b12 Q (nI q) X z.1 z.2 → X z) → Q (nI q) h1 → X (nI k, g1) := by
    intro n
    induction n with
    | zero =>
      intro k g1 hk m e
      have ek : k = R := by omega
      subst ek
      refine ⟨g1, m, e, fun Q X cl hq => cl _ ?_⟩
      show w_X12_named_b12 Q (nI q) X (nI k) g1
      unfold w_X12_named_b12
      rw [eqE_I e (by unfold sM; omega), m20]
      exact ⟨fun _ => hq, fun c => absurd (nI_le (Nat.le_refl _) (by omega)) c⟩
    | succ n ih =>
      intro k g1 hk m e
      have e20 : gI g1 0 20 = nI R := by rw [eqE_I e (by unfold sM; omega)]; exact m20
      have e8 : gL g1 8 k = gL h 8 k := eqE_L e (by unfold sM; omega)
      have e6 : gL g1 6 q = v := by rw [eqE_L e (by unfold sM; omega)]; exact m6
      have dd : dupB (gL h 8) v (k + 1) = (dupB (gL h 8) v k || decide (gL h 8 k = v)) := rfl
      by_cases eq : gL h 8 k = v
      · rw [decide_eq_true eq] at dd
        obtain ⟨bk, ebk⟩ : ∃ b, dupB (gL h 8) v k = b := ⟨_, rfl⟩
        rw [ebk] at m dd
        obtain ⟨h1, r1, r2, r3⟩ := ih (k + 1) (noteM T g1 (tW W bk) 3 q) (by omega) (by rw [dd, ← (tW_or (W := W) (b := bk) (c := true)).1, ← tQ_or]; exact MH_note m) (eqE_trans e noteM_e)
        refine ⟨h1, r1, r2, fun Q X cl hq => cl _ ?_⟩
        show w_X12_named_b12 Q (nI q) X (nI k) g1
        unfold w_X12_named_b12
        rw [e20, ix_n (n := k) (by omega), ix_n (n := q) (by omega), e8, e6]
        refine ⟨fun c => absurd c (nI_ge (by omega) (by omega)), fun _ => ⟨fun z => absurd m.2.2.1 z, fun _ => ⟨in_n (by omega) (by omega), in_n (by omega) (by omega), fun z => absurd eq z, fun _ => amissH (F := 3) m (tPrv p) (by omega) q4 qc (fun y ey => ?_)⟩⟩⟩
        rw [← nI_succ] at ey
        subst ey
        exact r3 Q X cl hq
      · rw [decide_eq_false eq, Bool.or_false] at dd
        obtain ⟨h1, r1, r2, r3⟩ := ih (k + 1) g1 (by omega) (by rw [dd]; exact m) e
        refine ⟨h1, r1, r2, fun Q X cl hq => cl _ ?_⟩
        show w_X12_named_b12 Q (nI q) X (nI k) g1
        unfold w_X12_named_b12
        rw [e20, ix_n (n := k) (by omega), ix_n (n := q) (by omega), e8, e6]
        refine ⟨fun c => absurd c (nI_ge (by omega) (by omega)), fun _ => ⟨fun z => absurd m.2.2.1 z, fun _ => ⟨in_n (by omega) (by omega), in_n (by omega) (by omega), fun _ y ey => ?_, fun z => absurd z eq⟩⟩⟩
        rw [← nI_succ] at ey
        subst ey
        exact r3 Q X cl hq
  obtain ⟨h1, r1, r2, r3⟩ := key R 0 h (by omega) g (eqE_refl h)
  exact ⟨h1, r1, r2, fun Q hq X hX => r3 Q X hX hq⟩
theorem L_name {T : Tb} {hc hm : hp} {d s t W : Nat} {Q0 : Int32} {R NS K f B : Nat} (S : TS T hc hm d s t W Q0 R NS K f B) (hR : R < 6) :
    (∃ hc1 hm1, BS hc1 hm1 ∧ eqE s2 hc hc1 ∧ eqE sM hm hm1 ∧ (∀ Q : Int32 → hp → Prop, Q 0 hc1 → w_X5_takeName hc Q) ∧ (∀ Q : Int32 → hp → Prop, Q (nI t) hm1 → w_X12_named hm Q)) ∨
    (tbK T t = 1 ∧ ∃ hc1 hm1 W1 Q1, TS T hc1 hm1 d s (t + 1) W1 Q1 R NS K f B ∧ (W1 = 0 → W = 0) ∧ gL hc1 (d + 2) R = tbV T t ∧ eqE (fun a j => (a = 2 ∧ j < 3) ∨ (a = d + 2 ∧ j = R)) hc hc1 ∧ eqE sM hm hm1 ∧ (∀ Q : Int32 → hp → Prop, Q 1 hc1 → w_X5_takeName hc Q) ∧ (∀ Q : Int32 → hp → Prop, Q (nI t) hm1 → w_X12_named hm Q)) := by
  have S0 := S
  obtain ⟨g0, ⟨a1, a2, a3, a4, a5, a6⟩, ⟨b1, b2, b3, b4, b5, b6, b7, b8⟩, ⟨n1, n2, n3⟩, ⟨o1, o2⟩, ⟨p1, p2⟩, v⟩ := S
  have hd := O18 a1
  have gc := GS_c g0
  have gm := GS_m g0
  have nk := GS_n g0
  have t4 := g0.1.2.2.2.1
  have tc := g0.1.2.2.2.2.1
  rcases L_takeH (x := 1) (cx := 2) (mx := 1) gc gm (by omega) (by omega) rfl rfl with ⟨hk, ht, r1, r2⟩ | ⟨F, f1, f2, fm, r1, r2⟩
  · right
    refine ⟨hk, ?_⟩
    have cA := CH_adv gc ht (by omega)
    have mA := MH_adv gm ht (by omega)
    have m6 : gL (mAdv hm t) 6 t = tbV T t := (g0.1.2.2.1 t t4 tc).2.2.2 hk
    have m20 : gI (mAdv hm t) 0 20 = nI R := by unfold mAdv; rw [gI_k _ _ (by decide)]; exact n3
    obtain ⟨hm1, m1, e1, rm⟩ := m_nameLoop a4 t4 tc mA (prv_n (F := 3) nk (Nat.le_refl t)) m20 m6
    obtain ⟨bm, ebm⟩ : ∃ b, dupB (gL (mAdv hm t) 8) (tbV T t) R = b := ⟨_, rfl⟩
    obtain ⟨bc, ebc⟩ : ∃ b, dupB (gL (cAdv hc t) (d + 2)) (tbV T t) R = b := ⟨_, rfl⟩
    rw [ebm] at m1
    let hS := sL (cAdv hc t) (d + 2) R (tbV T t)
    have cS : CH T hS (t + 1) W Q0 := CH_f (agI_sL (agI_r _) (by unfold kGC; omega)) cA
    have cZ := cN3_H (q := t) (b := bc) cS
    have same : W = 0 → bc = bm := fun w => by
      obtain ⟨⟨Sz, N, q1, q2, q3, q4⟩, _⟩ := v w
      rw [← ebc, ← ebm]
      exact dupB_cg R (fun k hk => q4 k hk)
    have WW : tW W bc = tW W bm ∧ tQ W Q0 (nI (tbS T t)) bc = tQ W Q0 (nI (tbS T t)) bm := by
      by_cases w : W = 0
      · rw [same w]; exact ⟨rfl, rfl⟩
      · rw [tW_n0 w, tW_n0 w, tQ_n0 w, tQ_n0 w]; exact ⟨rfl, rfl⟩
    rw [WW.1, WW.2] at cZ
    have gZ := GS_mk cZ m1 (tNok (nOk_s nk) (by omega))
    have fcZ : eqE (fun a j => (a = 2 ∧ j < 3) ∨ (a = d + 2 ∧ j = R)) hc (cN3 T hS W t bc) := eqE_trans (eqE_sL (eqE_w (fun a j q => Or.inl q) cAdv_e) (Or.inr ⟨rfl, rfl⟩)) (eqE_w (fun a j q => Or.inl q) cN3_e)
    have fmZ : eqE sM hm hm1 := eqE_trans mAdv_e e1
    have SZ : TS T (cN3 T hS W t bc) hm1 d s (t + 1) (tW W bm) (tQ W Q0 (nI (tbS T t)) bm) R NS K f B := by
      refine TS_w2 S0 gZ fcZ.2 (eqE_I fmZ (by unfold sM; omega)) (by rw [eqE_I fmZ (by unfold sM; omega)]; exact b2) (by rw [eqE_I fmZ (by unfold sM; omega)]; exact b3) (by rw [eqE_I fmZ (by unfold sM; omega)]; exact b4) (Nat.le_refl _) (by omega) (Nat.le_refl _) (by omega) ⟨a4, a5, a6⟩ ⟨by rw [eqE_I fcZ (by omega)]; exact n1, by rw [eqE_I fmZ (by unfold sM; omega)]; exact n2, by rw [eqE_I fmZ (by unfold sM; omega)]; exact n3⟩ ⟨by rw [eqE_I fcZ (by omega)]; exact o1, by rw [eqE_I fmZ (by unfold sM; omega)]; exact o2⟩ ⟨by rw [eqE_I fcZ (by omega)]; exact p1, by rw [eqE_I fmZ (by unfold sM; omega)]; exact p2⟩ (fun w => ?_)
      obtain ⟨v1, v2, v3, v4, v5, v6, v7⟩ := v (tW_0.mp w).1
      have ac : ∀ X : Nat → Nat → Prop, (∀ a j, X a j → ¬ a = 2 ∧ ¬ (a = d + 2 ∧ j = R)) → agI X hc (cN3 T hS W t bc) := fun X q => agI_e fcZ (fun a j z z' => by have := q a j z; omega)
      have am : ∀ X : Nat → Nat → Prop, (∀ a j, X a j → ¬ a = 0) → agI X hm hm1 := fun X q => agI_e fmZ (fun a j z z' => by have := q a j z; unfold sM at z'; omega)
      exact ⟨dRow_f (ac _ (fun a j q => by unfold kRwC at q; omega)) (am _ (fun a j q => by unfold kRwM at q; omega)) v1, dShr_f a5 (ac _ (fun a j q => by unfold kShC at q; omega)) (am _ (fun a j q => by unfold kShM at q; omega)) v2, dPri_f (ac _ (fun a j q => by unfold kPrC at q; omega)) (am _ (fun a j q => by unfold kPrM at q; omega)) v3, dBag_f (ac _ (fun a j q => by unfold kBgC at q; omega)) (am _ (fun a j q => by unfold kBgM at q; omega)) v4, dWld_f (ac _ (fun a j q => by unfold kWlC at q; omega)) (am _ (fun a j q => by unfold kWlM at q; omega)) v5, dLia_f (ac _ (fun a j q => by unfold kLiC at q; omega)) (am _ (fun a j q => by unfold kLiM at q; omega)) v6, dAsk_f (Nat.le_refl _) (Nat.le_refl _) (ac _ (fun a j q => by unfold kAsC at q; omega)) (am _ (fun a j q => by unfold kAsM at q; omega)) v7⟩
    refine ⟨_, hm1, _, _, SZ, fun w => (tW_0.mp w).1, ?_, fcZ, fmZ, fun Q hq => ?_, fun Q hq => ?_⟩
    · rw [eqE_L (cN3_e (T := T) (h := hS) (W := W) (q := t) (b := bc)) (by unfold s2; omega)]
      show gL (sL _ (d + 2) R _) (d + 2) R = _
      rw [gL_at]
    · have n1A : gI (cAdv hc t) d 0 = nI R := by unfold cAdv; rw [gI_o _ _ (by omega)]; exact n1
      have gr : gR (cAdv hc t) 1 = d := a2
      unfold w_X5_takeName w_X5_takeName_0
      refine r1 _ ⟨fun _ => ⟨by rw [gr]; exact shO7 a1, takenH (k := 1) cA (by omega) (by rw [Nat.add_sub_cancel]; omega) ?_⟩, fun q => absurd q (by decide)⟩
      rw [Nat.add_sub_cancel, gr]
      refine c_tellName n1A hR ?_
      rw [ebc]
      have hq : Q 1 (if bc = true then noteC T hS W 3 t else hS) := hq
      cases hb : bc
      · rw [hb] at hq
        exact ⟨fun _ => hq, fun q => absurd q (by decide)⟩
      · rw [hb] at hq
        exact ⟨fun q => absurd rfl q, fun _ => noteH (F := 3) (k := 1) (q := t) cS (by omega) nk.1 hq⟩
    · unfold w_X12_named w_X12_named_0
      intro x1 ex
      rw [g0.2.2.1] at ex
      subst ex
      exact r2 _ (rm Q hq)
  · left
    refine ⟨cSt T hc F t, mSt T hm F t, ⟨F, _, CF_st, fm⟩, cSt_e, mSt_e, fun Q hq => ?_, fun Q hq => ?_⟩
    · unfold w_X5_takeName w_X5_takeName_0
      exact r1 _ ⟨fun q => absurd rfl q, fun _ => hq⟩
    · unfold w_X12_named w_X12_named_0
      intro x1 ex
      rw [g0.2.2.1] at ex
      subst ex
      refine r2 _ (fun X hX => hX _ ?_)
      show w_X12_named_b12 Q (nI t) X 0 (mSt T hm F t)
      exact ⟨fun _ => hq, fun _ => ⟨fun _ => hq, fun q => absurd q (FM_ne fm).1⟩⟩
theorem clO_in (o : Option Int32) : -99 ≤ (clO o).toInt ∧ (clO o).toInt ≤ 99 := by
  have e1 : (-99 : Int32).toInt = -99 := rfl
  have e2 : (99 : Int32).toInt = 99 := rfl
  cases o with
  | none => exact ⟨by decide, by decide⟩
  | some r =>
    show -99 ≤ (clP r).toInt ∧ (clP r).toInt ≤ 99
    rw [clP_m]
    split
    · next h1 =>
      rw [t_le, e1] at h1
      split
      · next h2 => rw [t_le, e2] at h2; omega
      · rw [e2]; omega
    · rw [e1]; omega
theorem tlF_in (L : Lw) (V : Nat → Int32) : ∀ n, -99 ≤ (tlF L V n).toInt ∧ (tlF L V n).toInt ≤ 99
  | 0 => clO_in _
  | n + 1 => by
    unfold tlF
    split
    · split
      · exact clO_in _
      · exact tlF_in L V n
    · exact ⟨by decide, by decide⟩
def vRw (k z : Nat) (p : Int32) : Nat → Int32 := fun i => if i = 0 then nI k else if i = 1 then p else if i = 2 then nI z else 0
/-- the numbers of a row that a law tells: each knows the one before -/
def prF (L : Lw) (z : Nat) : Nat → Int32
  | 0 => 0
  | k + 1 => tellV L (vRw k z (prF L z k))
theorem prF_in (L : Lw) (z k : Nat) : -99 ≤ (prF L z (k + 1)).toInt ∧ (prF L z (k + 1)).toInt ≤ 99 := tlF_in L _ _
/-! a run has one end -/
def DetR (w : (Int32 → hp → Prop) → Prop) : Prop := ∀ Q, w Q → ∃ r h, Q r h ∧ ∀ Q' : Int32 → hp → Prop, Q' r h → w Q'
def DetI (w : (Int32 → Prop) → Prop) : Prop := ∀ Q, w Q → ∃ r, Q r ∧ ∀ Q' : Int32 → Prop, Q' r → w Q'
def D2 {σ : Type} (P : (Int32 → hp → Prop) → (σ → Prop) → Prop) : Prop := ∀ Q X, P Q X → (∃ r h, Q r h ∧ ∀ (Q' : Int32 → hp → Prop) (X' : σ → Prop), Q' r h → P Q' X') ∨ (∃ t, X t ∧ ∀ (Q' : Int32 → hp → Prop) (X' : σ → Prop), X' t → P Q' X')
theorem D2_q {σ : Type} (r : Int32) (h : hp) : D2 (σ := σ) (fun Q X => Q r h) := fun Q X H => Or.inl ⟨r, h, H, fun Q' X' H' => H'⟩
theorem D2_x {σ : Type} (t : σ) : D2 (fun Q X => X t) := fun Q X H => Or.inr ⟨t, H, fun Q' X' H' => H'⟩
theorem D2_if {σ : Type} {c : Prop} {A B : (Int32 → hp → Prop) → (σ → Prop) → Prop} (a : D2 A) (b : D2 B) : D2 (fun Q X => (c → A Q X) ∧ (¬ c → B Q X)) := fun Q X H => by
  by_cases z : c
  · rcases a Q X (H.1 z) with ⟨r, h, q, k⟩ | ⟨t, q, k⟩
    · exact Or.inl ⟨r, h, q, fun Q' X' H' => ⟨fun _ => k Q' X' H', fun n => absurd z n⟩⟩
    · exact Or.inr ⟨t, q, fun Q' X' H' => ⟨fun _ => k Q' X' H', fun n => absurd z n⟩⟩
  · rcases b Q X (H.2 z) with ⟨r, h, q, k⟩ | ⟨t, q, k⟩
    · exact Or.inl ⟨r, h, q, fun Q' X' H' => ⟨fun n => absurd n z, fun _ => k Q' X' H'⟩⟩
    · exact Or.inr ⟨t, q, fun Q' X' H' => ⟨fun n => absurd n z, fun _ => k Q' X' H'⟩⟩
theorem D2_fi {σ : Type} {c : Prop} {A B : (Int32 → hp → Prop) → (σ → Prop) → Prop} (b : D2 B) (a : D2 A) : D2 (fun Q X => (¬ c → B Q X) ∧ (c → A Q X)) := fun Q X H => by
  by_cases z : c
  · rcases a Q X (H.2 z) with ⟨r, h, q, k⟩ | ⟨t, q, k⟩
    · exact Or.inl ⟨r, h, q, fun Q' X' H' => ⟨fun n => absurd z n, fun _ => k Q' X' H'⟩⟩
    · exact Or.inr ⟨t, q, fun Q' X' H' => ⟨fun n => absurd z n, fun _ => k Q' X' H'⟩⟩
  · rcases b Q X (H.1 z) with ⟨r, h, q, k⟩ | ⟨t, q, k⟩
    · exact Or.inl ⟨r, h, q, fun Q' X' H' => ⟨fun _ => k Q' X' H', fun n => absurd n z⟩⟩
    · exact Or.inr ⟨t, q, fun Q' X' H' => ⟨fun _ => k Q' X' H', fun n => absurd n z⟩⟩
theorem D2_and {σ : Type} {p : Prop} {A : (Int32 → hp → Prop) → (σ → Prop) → Prop} (a : D2 A) : D2 (fun Q X => p ∧ A Q X) := fun Q X H => by
  rcases a Q X H.2 with ⟨r, h, q, k⟩ | ⟨t, q, k⟩
  · exact Or.inl ⟨r, h, q, fun Q' X' H' => ⟨H.1, k Q' X' H'⟩⟩
  · exact Or.inr ⟨t, q, fun Q' X' H' => ⟨H.1, k Q' X' H'⟩⟩
theorem D2_let {σ τ : Type} {e : τ} {A : τ → (Int32 → hp → Prop) → (σ → Prop) → Prop} (a : ∀ x, D2 (A x)) : D2 (fun Q X => ∀ x, x = e → A x Q X) := fun Q X H => by
  rcases a e Q X (H e rfl) with ⟨r, h, q, k⟩ | ⟨t, q, k⟩
  · exact Or.inl ⟨r, h, q, fun Q' X' H' x ex => by subst ex; exact k Q' X' H'⟩
  · exact Or.inr ⟨t, q, fun Q' X' H' x ex => by subst ex; exact k Q' X' H'⟩
theorem D2_call {σ : Type} {w : (Int32 → hp → Prop) → Prop} {A : Int32 → hp → (Int32 → hp → Prop) → (σ → Prop) → Prop} (dw : DetR w) (a : ∀ r h, D2 (A r h)) : D2 (fun Q X => w (fun r h => A r h Q X)) := fun Q X H => by
  obtain ⟨r0, h0, H0, k0⟩ := dw _ H
  rcases a r0 h0 Q X H0 with ⟨r, h, q, k⟩ | ⟨t, q, k⟩
  · exact Or.inl ⟨r, h, q, fun Q' X' H' => k0 _ (k Q' X' H')⟩
  · exact Or.inr ⟨t, q, fun Q' X' H' => k0 _ (k Q' X' H')⟩
theorem D2_callI {σ : Type} {w : (Int32 → Prop) → Prop} {A : Int32 → (Int32 → hp → Prop) → (σ → Prop) → Prop} (dw : DetI w) (a : ∀ r, D2 (A r)) : D2 (fun Q X => w (fun r => A r Q X)) := fun Q X H => by
  obtain ⟨r0, H0, k0⟩ := dw _ H
  rcases a r0 Q X H0 with ⟨r, h, q, k⟩ | ⟨t, q, k⟩
  · exact Or.inl ⟨r, h, q, fun Q' X' H' => k0 _ (k Q' X' H')⟩
  · exact Or.inr ⟨t, q, fun Q' X' H' => k0 _ (k Q' X' H')⟩
theorem Det_loop {σ : Type} {F : (Int32 → hp → Prop) → (σ → Prop) → σ → Prop} (d : ∀ s, D2 (fun Q X => F Q X s)) (s : σ) : DetR (fun Q => wLoop (F Q) s) := fun Q H => by
  refine H (fun s => ∃ r h, Q r h ∧ ∀ Q' : Int32 → hp → Prop, Q' r h → wLoop (F Q') s) (fun t Ht => ?_)
  rcases d t Q _ Ht with ⟨r, h, q, k⟩ | ⟨t', ⟨r, h, q, k'⟩, k⟩
  · exact ⟨r, h, q, fun Q' H' X hX => hX t (k Q' X H')⟩
  · exact ⟨r, h, q, fun Q' H' X hX => hX t (k Q' X (k' Q' H' X hX))⟩
theorem Det_joined (x0 x1 x2 : Int32) : DetI (w_X2_joined x0 x1 x2) := fun Q H => by
  have H := H x0 rfl
  obtain ⟨h42, h43, h44, h45, hd⟩ := H
  have div : ((¬ x2 = 0 → (¬ x2 = 0 ∧ (Q (x1 / x2)))) ∧ (x2 = 0 → (Q 0))) → ∃ r, Q r ∧ ∀ Q' : Int32 → Prop, Q' r → ((¬ x2 = 0 → (¬ x2 = 0 ∧ (Q' (x1 / x2)))) ∧ (x2 = 0 → (Q' 0))) := fun g => by
    by_cases z : x2 = 0
    · exact ⟨0, g.2 z, fun Q' H' => ⟨fun n => absurd z n, fun _ => H'⟩⟩
    · exact ⟨x1 / x2, (g.1 z).2, fun Q' H' => ⟨fun _ => ⟨z, H'⟩, fun n => absurd n z⟩⟩
  by_cases c42 : x0 = 42
  · subst c42
    exact ⟨_, h42 rfl, fun Q' H' sw e => by subst e; exact ⟨fun _ => H', fun q => absurd q (by decide), fun q => absurd q (by decide), fun q => absurd q (by decide), fun q => absurd q (by decide)⟩⟩
  by_cases c43 : x0 = 43
  · subst c43
    exact ⟨_, h43 rfl, fun Q' H' sw e => by subst e; exact ⟨fun q => absurd q (by decide), fun _ => H', fun q => absurd q (by decide), fun q => absurd q (by decide), fun q => absurd q (by decide)⟩⟩
  by_cases c44 : x0 = 44
  · subst c44
    obtain ⟨r, q, k⟩ := div (h44 rfl)
    exact ⟨r, q, fun Q' H' sw e => by subst e; exact ⟨fun q => absurd q (by decide), fun q => absurd q (by decide), fun _ => k Q' H', fun q => absurd q (by decide), fun q => absurd q (by decide)⟩⟩
  by_cases c45 : x0 = 45
  · subst c45
    exact ⟨_, h45 rfl, fun Q' H' sw e => by subst e; exact ⟨fun q => absurd q (by decide), fun q => absurd q (by decide), fun q => absurd q (by decide), fun _ => H', fun q => absurd q (by decide)⟩⟩
  have g : x0.toInt < 42 ∨ 45 < x0.toInt := by
    have e42 : ¬ x0.toInt = 42 := fun q => c42 (t_eq.mpr q)
    have e43 : ¬ x0.toInt = 43 := fun q => c43 (t_eq.mpr q)
    have e44 : ¬ x0.toInt = 44 := fun q => c44 (t_eq.mpr q)
    have e45 : ¬ x0.toInt = 45 := fun q => c45 (t_eq.mpr q)
    omega
  obtain ⟨r, q, k⟩ := div (hd g)
  exact ⟨r, q, fun Q' H' sw e => by subst e; exact ⟨fun q => absurd q c42, fun q => absurd q c43, fun q => absurd q c44, fun q => absurd q c45, fun _ => k Q' H'⟩⟩
theorem Det_worth (o : Nat) (h : hp) : DetR (w_X2_worth o h) := by
  refine Det_loop (F := fun Q X q => w_X2_worth_b6 o Q X q.1 q.2.1 q.2.2.1 q.2.2.2) (fun s => ?_) (0, 0, 0, h)
  unfold w_X2_worth_b6 w_X2_worth_100 w_X2_worth_198
  repeat' first
    | exact D2_q _ _
    | exact D2_x _
    | refine D2_if ?_ ?_
    | refine D2_fi ?_ ?_
    | refine D2_callI (Det_joined _ _ _) (fun _ => ?_)
    | refine D2_let (fun _ => ?_)
    | refine D2_and ?_
theorem Det_numberAt (o : Nat) (h : hp) (x y z : Int32) : DetR (w_X2_numberAt o h x y z) := fun Q H => by
  unfold w_X2_numberAt w_X2_numberAt_0 w_X2_look w_X2_look_0 at H ⊢
  obtain ⟨i0, H⟩ := H
  obtain ⟨i1, H⟩ := H _ rfl
  obtain ⟨i2, H⟩ := H _ rfl
  obtain ⟨i3, H⟩ := H _ rfl
  obtain ⟨i4, H⟩ := H _ rfl
  obtain ⟨i5, H⟩ := H _ rfl
  obtain ⟨r, h1, q, k⟩ := Det_worth o _ _ (H _ rfl)
  exact ⟨_, h1, q, fun Q' H' => ⟨i0, fun g1 e1 => by subst e1; exact ⟨i1, fun g2 e2 => by subst e2; exact ⟨i2, fun g3 e3 => by subst e3; exact ⟨i3, fun g4 e4 => by subst e4; exact ⟨i4, fun g5 e5 => by subst e5; exact ⟨i5, fun g6 e6 => by subst e6; exact k _ H'⟩⟩⟩⟩⟩⟩⟩
theorem Det_termOf (h : hp) (x1 x2 : Int32) : DetR (w_X12_termOf h x1 x2) := by
  refine Det_loop (F := fun Q X q => w_X12_termOf_b5 Q x2 X q.1 q.2.1 q.2.2) (fun s => ?_) (0, x1, h)
  unfold w_X12_termOf_b5 w_X12_termOf_104 w_X12_termOf_58 w_X12_termOf_158
  repeat' first
    | exact D2_q _ _
    | exact D2_x _
    | refine D2_if ?_ ?_
    | refine D2_fi ?_ ?_
    | refine D2_let (fun _ => ?_)
    | refine D2_and ?_
theorem Det_tellsBy (h : hp) (x1 : Int32) : DetR (w_X12_tellsBy h x1) := fun Q H => by
  have D : ∀ s : Int32 × hp, DetR (fun Q => w_X12_tellsBy_12 Q x1 s.1 s.2) := fun s => by
    refine Det_loop (F := fun Q X q => w_X12_tellsBy_b12 Q x1 X q.1 q.2) (fun s => ?_) s
    unfold w_X12_tellsBy_b12 w_X12_tellsBy_84
    repeat' first
      | exact D2_q _ _
      | exact D2_x _
      | refine D2_if ?_ ?_
      | refine D2_fi ?_ ?_
      | refine D2_call (Det_termOf _ _ _) (fun _ _ => ?_)
      | refine D2_let (fun _ => ?_)
      | refine D2_and ?_
  unfold w_X12_tellsBy w_X12_tellsBy_0 at H ⊢
  obtain ⟨i0, H⟩ := H _ rfl
  obtain ⟨r, h1, q, k⟩ := D (_, _) _ (H _ rfl)
  exact ⟨r, h1, q, fun Q' H' g1 e1 => by subst e1; exact ⟨i0, fun x2 e2 => by subst e2; exact k Q' H'⟩⟩
/-- a law's number, the class's -/
theorem E_numberBy {o : Nat} {h : hp} {L : Lw} {x y z : Int32} (a : cLaw o h L) (w : wfL L) : ∃ h1, eqE (kScr o) h h1 ∧ ∀ Q : Int32 → hp → Prop, Q (tellV L (fun k => if k = 0 then x else if k = 1 then y else if k = 2 then z else 0)) h1 → w_X2_numberAt o h x y z Q := by
  obtain ⟨r, h1, ⟨q1, q2⟩, k⟩ := Det_numberAt o h x y z (fun r h1 => r = tellV L (fun k => if k = 0 then x else if k = 1 then y else if k = 2 then z else 0) ∧ eqE (kScr o) h h1) (c_numberBy a w (fun h1 e => ⟨rfl, e⟩))
  subst q1
  exact ⟨h1, q2, k⟩
theorem E_tellsBy {h : hp} {i : Nat} {L : Lw} {V : Nat → Int32} (hi : i < 4) (a : mLaw i h L) (w : wfL L) (hV : ∀ k, k < 6 → gI h 32 k = V k) : ∃ h1, eqE tmScr h h1 ∧ ∀ Q : Int32 → hp → Prop, Q (tellV L V) h1 → w_X12_tellsBy h (nI i) Q := by
  obtain ⟨r, h1, ⟨q1, q2⟩, k⟩ := Det_tellsBy h (nI i) (fun r h1 => r = tellV L V ∧ eqE tmScr h h1) (m_tellsBy hi a w hV (fun h1 e => ⟨rfl, e⟩))
  subst q1
  exact ⟨h1, q2, k⟩
/-! a row by a law -/
def rwC (d R : Nat) (a j : Nat) : Prop := a = 12 ∨ a = 13 ∨ (a = d + 3 ∧ 6 * R ≤ j) ∨ (a = d + 1 ∧ j = R) ∨ (a = d ∧ j = 0)
def rwM (s R : Nat) (a j : Nat) : Prop := (a = 0 ∧ (j = 20 ∨ j = 50)) ∨ a = 32 ∨ a = 33 ∨ (a = 8 ∧ j = R) ∨ (a = 9 ∧ j = s) ∨ (a = 10 ∧ j = 6 * s + R) ∨ (a = 11 ∧ 36 * s + 6 * R ≤ j ∧ j < 36 * s + 6 * R + 6)
theorem cLaw_e9 {P : Nat → Nat → Prop} {h h1 : hp} {L : Lw} (e : eqE P h h1) (n : ∀ a j, 9 ≤ a → a ≤ 11 → ¬ P a j) (a : cLaw 9 h L) : cLaw 9 h1 L := by
  have q4 : ∀ j, gI h1 9 j = gI h 9 j := fun j => eqE_I e (n 9 j (by omega) (by omega))
  have q5 : ∀ j, gI h1 (9 + 1) j = gI h (9 + 1) j := fun j => eqE_I e (n 10 j (by omega) (by omega))
  have q6 : ∀ j, gI h1 (9 + 2) j = gI h (9 + 2) j := fun j => eqE_I e (n 11 j (by omega) (by omega))
  unfold cLaw isStep
  simp only [q4, q5, q6]
  exact a
theorem c_tellNum {h : hp} {d R k : Nat} {v : Int32} {Q : hp → Prop} (e : gI h d 0 = nI R) (hR : R < 6) (hk : k < 6) (hq : Q (sI h (d + 3) (6 * R + k) v)) : w_X7_tellNumber d h (nI k) v Q := by
  have e6 : nI R * 6 + nI k = nI (6 * R + k) := by rw [show (6 : Int32) = nI 6 from rfl, nI_mul (by omega) (by omega) (by omega), nI_add, Nat.mul_comm R 6]
  unfold w_X7_tellNumber w_X7_tellNumber_0
  rw [e, e6]
  refine ⟨fun c => absurd c (nI_ge (a := R) (b := 6) hR (by omega)), fun _ => ⟨fun c => absurd c (nI_ge (a := k) (b := 6) hk (by omega)), fun _ => ⟨in_n (by omega) (by omega), fun h3 e3 => ?_⟩⟩⟩
  rw [ix_n (n := 6 * R + k) (by omega)] at e3
  subst e3
  exact hq
theorem c_endRow {h : hp} {d R : Nat} {z : Int32} {Q : hp → Prop} (e : gI h d 0 = nI R) (hR : R < 6) (hq : Q (sI (sI h (d + 1) R z) d 0 (nI (R + 1)))) : w_X7_endRow d h z Q := by
  unfold w_X7_endRow w_X7_endRow_0
  rw [e]
  refine ⟨fun c => absurd c (nI_ge (a := R) (b := 6) hR (by omega)), fun _ => ⟨in_n hR (by omega), fun h2 e2 h3 e3 => ?_⟩⟩
  rw [ix_n (n := R) (by omega)] at e2
  subst e2
  rw [gI_o _ _ (by omega), e, ← nI_succ] at e3
  subst e3
  exact hq
theorem E_cRow {h : hp} {L : Lw} {d R z : Nat} (a : cLaw 9 h L) (w : wfL L) (e3 : gI h 2 3 = nI z) (hz : z ≤ 6) (hd : isO d) (gr : gR h 1 = d) (e0 : gI h d 0 = nI R) (hR : R < 6) : ∃ h1, eqE (rwC d R) h h1 ∧ gI h1 d 0 = nI (R + 1) ∧ gI h1 (d + 1) R = nI z ∧ (∀ k, k < z → gI h1 (d + 3) (6 * R + k) = prF L z (k + 1)) ∧ ∀ Q : Int32 → hp → Prop, Q 1 h1 → w_X5_tellRow h Q := by
  have hd' := O18 hd
  have key : ∀ n k (g : hp), n + k = z → eqE (rwC d R) h g → gI g d 0 = nI R → (∀ j, j < k → gI g (d + 3) (6 * R + j) = prF L z (j + 1)) → ∃ h1, eqE (rwC d R) h h1 ∧ gI h1 d 0 = nI (R + 1) ∧ gI h1 (d + 1) R = nI z ∧ (∀ k, k < z → gI h1 (d + 3) (6 * R + k) = prF L z (k + 1)) ∧ ∀ (Q : Int32 → hp → Prop) (X : Int32 × Int32 × hp → Prop), (∀ q, w_X5_tellRow_b4 Q X q.1 q.2.1 q.2.2 → X q) → Q 1 h1 → X (prF L z k, nI k, g) := by
    intro n
    induction n with
    | zero =>
      intro k g hk e g0 vs
      have ek : k = z := by omega
      subst ek
      refine ⟨sI (sI g (d + 1) R (nI k)) d 0 (nI (R + 1)), eqE_sI (eqE_sI e (by unfold rwC; omega)) (by unfold rwC; omega), gI_at _ _ _ _, ?_, fun j hj => ?_, fun Q X cl hq => cl _ ?_⟩
      · rw [gI_o _ _ (by omega)]; exact gI_at _ _ _ _
      · rw [gI_o _ _ (by omega), gI_o _ _ (by omega)]; exact vs j hj
      · show w_X5_tellRow_b4 Q X (prF L k k) (nI k) g
        have gr' : gR g 1 = d := by rw [e.2]; exact gr
        have s3 : gI g 2 3 = nI k := by rw [eqE_I e (by unfold rwC; omega)]; exact e3
        unfold w_X5_tellRow_b4
        rw [s3, gr']
        exact ⟨fun _ => ⟨shO7 hd, c_endRow g0 hR hq⟩, fun c => absurd (nI_le (Nat.le_refl _) (by omega)) c⟩
    | succ n ih =>
      intro k g hk e g0 vs
      have aG : cLaw 9 g L := cLaw_e9 e (fun a j h1 h2 => by unfold rwC; omega) a
      obtain ⟨g1, x1, k1⟩ := E_numberBy (o := 9) (x := nI k) (y := prF L z k) (z := nI z) aG w
      have x1' : eqE (rwC d R) g g1 := eqE_w (fun a j q => by unfold kScr at q; unfold rwC; omega) x1
      have g10 : gI g1 d 0 = nI R := by rw [eqE_I x1 (by unfold kScr; omega)]; exact g0
      obtain ⟨h1, r1, r2, r3, r4, r5⟩ := ih (k + 1) (sI g1 (d + 3) (6 * R + k) (prF L z (k + 1))) (by omega) (eqE_sI (eqE_trans e x1') (by unfold rwC; omega)) (by rw [gI_o _ _ (by omega)]; exact g10) (fun j hj => by
        by_cases q : j = k
        · subst q; exact gI_at _ _ _ _
        · rw [gI_k _ _ (by omega), eqE_I x1 (by unfold kScr; omega)]; exact vs j (by omega))
      refine ⟨h1, r1, r2, r3, r4, fun Q X cl hq => cl _ ?_⟩
      show w_X5_tellRow_b4 Q X (prF L z k) (nI k) g
      have gr' : gR g1 1 = d := by rw [x1.2, e.2]; exact gr
      have s3 : gI g 2 3 = nI z := by rw [eqE_I e (by unfold rwC; omega)]; exact e3
      unfold w_X5_tellRow_b4
      rw [s3]
      refine ⟨fun c => absurd c (nI_ge (by omega) (by omega)), fun _ => k1 _ ?_⟩
      rw [gr']
      refine ⟨shO7 hd, c_tellNum g10 hR (by omega) (fun y ey => ?_)⟩
      rw [← nI_succ] at ey
      subst ey
      exact r5 Q X cl hq
  obtain ⟨h1, r1, r2, r3, r4, r5⟩ := key z 0 h (by omega) (eqE_refl h) e0 (fun j hj => absurd hj (Nat.not_lt_zero j))
  exact ⟨h1, r1, r2, r3, r4, fun Q hq X hX => r5 Q X hX hq⟩
theorem m_notes {h : hp} {s R tn : Nat} {Q : hp → Prop} (hs : s < 2) (m19 : gI h 0 19 = nI s) (hR : R < 6) (m20 : gI h 0 20 = nI R) (m9 : gI h 9 s = nI R) (ht : tn ≤ 402) (hq : Q (sI (sI (sL h 8 R (gL h 6 tn)) 0 20 (nI (R + 1))) 9 s (nI (R + 1)))) : w_X12_notes h (nI tn) Q := by
  have ixs : ix (nI s) = s := ix_n (by omega)
  have ins : vp_in (nI s) 2 := in_n hs (by omega)
  unfold w_X12_notes w_X12_notes_0
  rw [m20, ix_n (n := R) (by omega), ix_n (n := tn) (by omega)]
  refine ⟨in_n (by omega) (by omega), in_n hR (by omega), fun h1 e1 h2 e2 => ?_⟩
  subst e1
  rw [gI_sL, m20, ← nI_succ] at e2
  subst e2
  have q19 : gI (sI (sL h 8 R (gL h 6 tn)) 0 20 (nI (R + 1))) 0 19 = nI s := by rw [gI_k _ _ (by decide), gI_sL]; exact m19
  have q9 : gI (sI (sL h 8 R (gL h 6 tn)) 0 20 (nI (R + 1))) 9 s = nI R := by rw [gI_o _ _ (by decide), gI_sL]; exact m9
  rw [q19, ixs, q9]
  refine ⟨ins, ins, fun h3 e3 => ?_⟩
  rw [← nI_succ] at e3
  subst e3
  exact hq
theorem E_mRow {h : hp} {L : Lw} {s R z f0 b0 tn : Nat} (a : mLawX (2 * s + 1) h L f0 b0) (w : wfL L) (hz : z ≤ 6) (hs : s < 2) (m19 : gI h 0 19 = nI s) (hR : R < 6) (m20 : gI h 0 20 = nI R) (m9 : gI h 9 s = nI R) (ht : tn ≤ 402) : ∃ h1, eqE (rwM s R) h h1 ∧ gI h1 9 s = nI (R + 1) ∧ gI h1 0 20 = nI (R + 1) ∧ gI h1 10 (6 * s + R) = nI z ∧ (∀ k, k < z → gI h1 11 (36 * s + 6 * R + k) = prF L z (k + 1)) ∧ gL h1 8 R = gL h 6 tn ∧ ∀ Q : hp → Prop, Q h1 → w_X12_tellRow_49 Q (nI R) (nI tn) (nI z) h := by
  have e6 : 6 * nI s + nI R = nI (6 * s + R) := by rw [show (6 : Int32) = nI 6 from rfl, nI_mul (by omega) (by omega) (by omega), nI_add]
  have e36 : ∀ k, k < 6 → 36 * nI s + 6 * nI R + nI k = nI (36 * s + 6 * R + k) := fun k hk => by rw [show (36 : Int32) = nI 36 from rfl, show (6 : Int32) = nI 6 from rfl, nI_mul (by omega) (by omega) (by omega), nI_mul (by omega) (by omega) (by omega), nI_add, nI_add]
  have e2s : 2 * nI s + 1 = nI (2 * s + 1) := by rw [show (2 : Int32) = nI 2 from rfl, nI_mul (by omega) (by omega) (by omega), ← nI_succ]
  have key : ∀ n k (g : hp), n + k = z → eqE (rwM s R) h g → gI g 0 20 = nI R → gI g 9 s = nI R → gI g 10 (6 * s + R) = nI z → (∀ i, 3 ≤ i → i < 6 → gI g 32 i = 0) → (∀ j, j < k → gI g 11 (36 * s + 6 * R + j) = prF L z (j + 1)) → ∃ h1, eqE (rwM s R) h h1 ∧ gI h1 9 s = nI (R + 1) ∧ gI h1 0 20 = nI (R + 1) ∧ gI h1 10 (6 * s + R) = nI z ∧ (∀ k, k < z → gI h1 11 (36 * s + 6 * R + k) = prF L z (k + 1)) ∧ gL h1 8 R = gL h 6 tn ∧ ∀ (Q : hp → Prop) (X : Int32 × hp → Prop), (∀ q, w_X12_tellRow_b91 Q (nI R) (nI tn) (nI z) X q.1 q.2 → X q) → Q h1 → X (nI k, g) := by
    intro n
    induction n with
    | zero =>
      intro k g hk e g20 g9 g10 g32 vs
      have ek : k = z := by omega
      subst ek
      have g19 : gI g 0 19 = nI s := by rw [eqE_I e (by unfold rwM; omega)]; exact m19
      have g6 : gL g 6 tn = gL h 6 tn := eqE_L e (by unfold rwM; omega)
      refine ⟨sI (sI (sL g 8 R (gL g 6 tn)) 0 20 (nI (R + 1))) 9 s (nI (R + 1)), eqE_sI (eqE_sI (eqE_sL e (by unfold rwM; omega)) (by unfold rwM; omega)) (by unfold rwM; omega), gI_at _ _ _ _, ?_, ?_, fun j hj => ?_, ?_, fun Q X cl hq => cl _ ?_⟩
      · rw [gI_o _ _ (by decide)]; exact gI_at _ _ _ _
      · rw [gI_o _ _ (by decide), gI_o _ _ (by decide), gI_sL]; exact g10
      · rw [gI_o _ _ (by decide), gI_o _ _ (by decide), gI_sL]; exact vs j hj
      · rw [gL_sI, gL_sI, gL_at]; exact g6
      · show w_X12_tellRow_b91 Q (nI R) (nI tn) (nI k) X (nI k) g
        unfold w_X12_tellRow_b91
        exact ⟨fun _ => m_notes hs g19 hR g20 g9 ht hq, fun c => absurd (nI_le (Nat.le_refl _) (by omega)) c⟩
    | succ n ih =>
      intro k g hk e g20 g9 g10 g32 vs
      have g19 : gI g 0 19 = nI s := by rw [eqE_I e (by unfold rwM; omega)]; exact m19
      let h19 := sI (sI (sI g 32 0 (nI k)) 32 1 (prF L z k)) 32 2 (nI z)
      have f19 : eqE (fun a _ => a = 32) g h19 := eqE_sI (eqE_sI (eqE_sI (eqE_refl _) rfl) rfl) rfl
      have a19 : mLawX (2 * s + 1) h19 L f0 b0 := mLawX_f w ⟨by rw [eqE_I f19 (by decide), eqE_I e (by unfold rwM; omega)], by rw [eqE_I f19 (by decide), eqE_I e (by unfold rwM; omega)]⟩ (fun a j q => by rw [eqE_I f19 (by omega), eqE_I e (by unfold rwM; omega)]) a
      have hV : ∀ i, i < 6 → gI h19 32 i = vRw k z (prF L z k) i := fun i hi => by
        show gI (sI (sI (sI g 32 0 _) 32 1 _) 32 2 _) 32 i = _
        by_cases i2 : i = 2
        · subst i2; rw [gI_at]; rfl
        by_cases i1 : i = 1
        · subst i1; rw [gI_k _ _ (by decide), gI_at]; rfl
        by_cases i0 : i = 0
        · subst i0; rw [gI_k _ _ (by decide), gI_k _ _ (by decide), gI_at]; rfl
        rw [gI_k _ _ i2, gI_k _ _ i1, gI_k _ _ i0, g32 i (by omega) hi]
        unfold vRw
        rw [if_neg i0, if_neg i1, if_neg i2]
      obtain ⟨g1, x1, k1⟩ := E_tellsBy (i := 2 * s + 1) (by omega) (mLawX_m a19) w hV
      have e1 : eqE (rwM s R) h g1 := eqE_trans e (eqE_trans (eqE_w (fun a j q => by unfold rwM; omega) f19) (eqE_w (fun a j q => by unfold tmScr at q; unfold rwM; omega) x1))
      have c1 : ∀ a j, ¬ a = 32 → ¬ tmScr a j → gI g1 a j = gI g a j := fun a j n1 n2 => by rw [eqE_I x1 n2, eqE_I f19 n1]
      obtain ⟨h1, r1, r2, r3, r4, r5, r6, r7⟩ := ih (k + 1) (sI g1 11 (36 * s + 6 * R + k) (prF L z (k + 1))) (by omega) (eqE_sI e1 (by unfold rwM; omega)) (by rw [gI_o _ _ (by decide), c1 _ _ (by decide) (by unfold tmScr; omega)]; exact g20) (by rw [gI_o _ _ (by decide), c1 _ _ (by decide) (by unfold tmScr; omega)]; exact g9) (by rw [gI_o _ _ (by decide), c1 _ _ (by decide) (by unfold tmScr; omega)]; exact g10) (fun i h3 h6 => by
        rw [gI_o _ _ (by decide), eqE_I x1 (by unfold tmScr; omega)]
        show gI (sI (sI (sI g 32 0 _) 32 1 _) 32 2 _) 32 i = _
        rw [gI_k _ _ (by omega), gI_k _ _ (by omega), gI_k _ _ (by omega)]; exact g32 i h3 h6) (fun j hj => by
        by_cases q : j = k
        · subst q; exact gI_at _ _ _ _
        · rw [gI_k _ _ (by omega), c1 _ _ (by decide) (by unfold tmScr; omega)]; exact vs j (by omega))
      refine ⟨h1, r1, r2, r3, r4, r5, r6, fun Q X cl hq => cl _ ?_⟩
      show w_X12_tellRow_b91 Q (nI R) (nI tn) (nI z) X (nI k) g
      have go : w_X12_tellRow_141 Q X (nI R) (nI tn) (nI z) (nI k) (sI g 32 0 (nI k)) (prF L z k) 1 := by
        unfold w_X12_tellRow_141
        refine ⟨by unfold vp_in; decide, fun h18 e18 => ⟨by unfold vp_in; decide, fun h19' e19 => ?_⟩⟩
        have e19' : h19' = h19 := by rw [e19, e18]; rfl
        subst e19'
        have q19 : gI h19 0 19 = nI s := by rw [eqE_I f19 (by decide)]; exact g19
        rw [q19, e2s, e36 k (by omega), ix_n (n := 36 * s + 6 * R + k) (by omega)]
        refine k1 _ ⟨in_n (by omega) (by omega), fun h22 e22 y ey => ?_⟩
        rw [← nI_succ] at ey
        subst e22 ey
        exact r7 Q X cl hq
      unfold w_X12_tellRow_b91
      refine ⟨fun c => absurd c (nI_ge (by omega) (by omega)), fun _ => ⟨by unfold vp_in; decide, fun h16 e16 => ?_⟩⟩
      have e16 : h16 = sI g 32 0 (nI k) := e16
      subst e16
      refine ⟨fun n0 => ?_, fun z0 => ?_⟩
      · have k0 : ¬ k = 0 := fun q => n0 (by rw [q]; rfl)
        have q19 : gI (sI g 32 0 (nI k)) 0 19 = nI s := by rw [gI_o _ _ (by decide)]; exact g19
        rw [q19, e36 k (by omega), show (1 : Int32) = nI 1 from rfl, nI_sub (by omega) (by omega), ix_n (n := 36 * s + 6 * R + k - 1) (by omega)]
        refine ⟨in_n (by omega) (by omega), ?_⟩
        have pv : gI (sI g 32 0 (nI k)) 11 (36 * s + 6 * R + k - 1) = prF L z k := by
          rw [gI_o _ _ (by decide), show 36 * s + 6 * R + k - 1 = 36 * s + 6 * R + (k - 1) from by omega, vs (k - 1) (by omega), show k - 1 + 1 = k from by omega]
        rw [pv]
        exact go
      · have k0 : k = 0 := (nI_eq (a := k) (b := 0) (by omega) (by omega)).mp z0
        subst k0
        exact go
  -- the looks are nought first
  have key0 : ∀ n k (g : hp), n + k = 6 → eqE (rwM s R) h g → gI g 0 20 = nI R → gI g 9 s = nI R → gI g 10 (6 * s + R) = nI z → (∀ i, i < k → gI g 32 i = 0) → ∃ h1, eqE (rwM s R) h h1 ∧ gI h1 9 s = nI (R + 1) ∧ gI h1 0 20 = nI (R + 1) ∧ gI h1 10 (6 * s + R) = nI z ∧ (∀ k, k < z → gI h1 11 (36 * s + 6 * R + k) = prF L z (k + 1)) ∧ gL h1 8 R = gL h 6 tn ∧ ∀ (Q : hp → Prop) (X : Int32 × hp → Prop), (∀ q, w_X12_tellRow_b67 Q (nI R) (nI tn) (nI z) X q.1 q.2 → X q) → Q h1 → X (nI k, g) := by
    intro n
    induction n with
    | zero =>
      intro k g hk e g20 g9 g10 g32
      have ek : k = 6 := by omega
      subst ek
      obtain ⟨h1, r1, r2, r3, r4, r5, r6, r7⟩ := key z 0 g (by omega) e g20 g9 g10 (fun i _ h6 => g32 i h6) (fun j hj => absurd hj (Nat.not_lt_zero j))
      refine ⟨h1, r1, r2, r3, r4, r5, r6, fun Q X cl hq => cl _ ?_⟩
      exact ⟨fun _ Y hY => r7 Q Y hY hq, fun c => absurd (show (6 : Int32) ≤ nI 6 by decide) c⟩
    | succ n ih =>
      intro k g hk e g20 g9 g10 g32
      obtain ⟨h1, r1, r2, r3, r4, r5, r6, r7⟩ := ih (k + 1) (sI g 32 k 0) (by omega) (eqE_sI e (by unfold rwM; omega)) (by rw [gI_o _ _ (by decide)]; exact g20) (by rw [gI_o _ _ (by decide)]; exact g9) (by rw [gI_o _ _ (by decide)]; exact g10) (fun i hi => by
        by_cases q : i = k
        · subst q; exact gI_at _ _ _ _
        · rw [gI_k _ _ q]; exact g32 i (by omega))
      refine ⟨h1, r1, r2, r3, r4, r5, r6, fun Q X cl hq => cl _ ?_⟩
      show w_X12_tellRow_b67 Q (nI R) (nI tn) (nI z) X (nI k) g
      unfold w_X12_tellRow_b67
      rw [ix_n (n := k) (by omega)]
      refine ⟨fun c => absurd c (nI_ge (b := 6) (by omega) (by omega)), fun _ => ⟨in_n (by omega) (by omega), fun h12 e12 y ey => ?_⟩⟩
      rw [← nI_succ] at ey
      subst e12 ey
      exact r7 Q X cl hq
  obtain ⟨h1, r1, r2, r3, r4, r5, r6, r7⟩ := key0 6 0 (sI h 10 (6 * s + R) (nI z)) (by omega) (eqE_sI (eqE_refl _) (by unfold rwM; omega)) (by rw [gI_o _ _ (by decide)]; exact m20) (by rw [gI_o _ _ (by decide)]; exact m9) (gI_at _ _ _ _) (fun i hi => absurd hi (Nat.not_lt_zero i))
  refine ⟨h1, r1, r2, r3, r4, r5, r6, fun Q hq => ?_⟩
  unfold w_X12_tellRow_49
  rw [m19, e6, ix_n (n := 6 * s + R) (by omega)]
  refine ⟨in_n (by omega) (by omega), fun h10 e10 => ?_⟩
  subst e10
  exact fun X hX => r7 Q X hX hq
theorem m_tellLawF {h : hp} {F n : Nat} {P x : Int32} {f F1 B B1 : Nat} (g : FM h F P) (e : gI h 0 37 = nI n) (hf : f ≤ n) (hn : n < F1) (hF : F1 ≤ 260) : ∃ h1, FM h1 F P ∧ eqE (lMs f F1 B B1) h h1 ∧ ∀ Q : hp → Prop, Q h1 → w_X12_tellLaw h x Q := by
  obtain ⟨h1, a1, a2, a3⟩ := m_XTF (x1 := x) (x2 := nI n) (x3 := 0) (f := f) (F1 := F1) (B := B) (B1 := B1) g e hf hn hF
  refine ⟨h1, a1, a2, fun Q hq => ?_⟩
  unfold w_X12_tellLaw w_X12_tellLaw_0
  refine m_mustF g (fun x2 ex => ?_)
  rw [e] at ex
  subst ex
  exact fun X hX => a3 Q X hX hq
def wcRow (hc : hp) (Q : Int32 → hp → Prop) : Prop := w_X5_takeName hc (fun r15 h14 => (r15 = 0 → (Q 0 h14)) ∧ (¬ (r15 = 0) → (w_X5_take h14 3 (fun r18 h17 => (r18 = 0 → (Q 0 h17)) ∧ (¬ (r18 = 0) → (w_X5_noteSize h17 (fun r21 h20 => (r21 = 0 → (Q 0 h20)) ∧ (¬ (r21 = 0) → (w_X5_readLaw h20 (fun r24 h23 => (r24 = 0 → (Q 0 h23)) ∧ (¬ (r24 = 0) → (w_X5_tellRow h23 (fun r27 h26 => (r27 = 0 → (Q 0 h26)) ∧ (¬ (r27 = 0) → (Q 1 h26)))))))))))))))
theorem lM_s {s f B : Nat} {h h1 : hp} (hf : 130 * s ≤ f) (hB : 420 * s ≤ B) (e : eqE (lMs f (130 * s + 130) B (420 * s + 420)) h h1) : eqE (scrM s) h h1 := lz_sM (i := 0) (by omega) hf hB (lMs_z e)
theorem rwM_s {s R : Nat} {h h1 : hp} (hR : R < 6) (e : eqE (rwM s R) h h1) : eqE (scrM s) h h1 := eqE_w (fun a j q => by
  rcases q with ⟨q, r⟩ | q | q | ⟨q, r⟩ | ⟨q, r⟩ | ⟨q, r⟩ | ⟨q, r⟩
  · subst q; exact sc_0 (by omega)
  · subst q; exact sc_32
  · subst q; exact sc_33
  · subst q; exact sc_8
  · subst q r; exact sc_s (by omega)
  · subst q; exact sc_10 (by omega)
  · subst q; exact sc_11 (by omega)) e
theorem T_row {T : Tb} {hc hm : hp} {d s t W : Nat} {Q0 : Int32} {R NS K f B : Nat} (S : TS T hc hm d s t W Q0 R NS K f B) (hR : R < 6) : TOut T hc hm d s t (wcRow hc) (fun Q => w_X12_tellRow hm Q) := by
  have S0 := S
  obtain ⟨g0, ⟨a1, a2, a3, a4, a5, a6⟩, ⟨b1, b2, b3, b4, b5, b6, b7, b8⟩, ⟨n1, n2, n3⟩, _, _, _⟩ := S
  have hd := O18 a1
  have t4 := g0.1.2.2.2.1
  have tc := g0.1.2.2.2.2.1
  have ixs : ix (nI s) = s := ix_n (by omega)
  have ins : vp_in (nI s) 2 := in_n a3 (by omega)
  have mIn : ∀ Q : hp → Prop, w_X12_named hm (fun r3 h2 => w_X12_bounded h2 1 6 (fun r5 h4 => w_X12_tellLaw h4 1 (fun h6 => ((gI h6 0 13) ≤ 0 → ((r5 < 1 → (w_X12_tellRow_49 Q (nI R) r3 0 h6)) ∧ (¬ (r5 < 1) → ((r5 ≤ 6 → (w_X12_tellRow_49 Q (nI R) r3 r5 h6)) ∧ (¬ (r5 ≤ 6) → (w_X12_tellRow_49 Q (nI R) r3 0 h6)))))) ∧ (¬ ((gI h6 0 13) ≤ 0) → (Q h6))))) → w_X12_tellRow hm Q := fun Q hq => by
    unfold w_X12_tellRow w_X12_tellRow_0
    rw [b1, ixs, n2]
    exact ⟨ins, fun x1 ex => by subst ex; exact hq⟩
  rcases L_name S0 hR with ⟨hc1, hm1, ⟨F, P, cf, fm⟩, e1, e2, r1, r2⟩ | ⟨hk, hc1, hm1, W1, Q1, S1, hw1, nm, e1, e2, r1, r2⟩
  · left
    have q37 : gI hm1 0 37 = nI f := by rw [eqE_I e2 (by unfold sM; omega)]; exact b3
    obtain ⟨h3, y1, y2, y3⟩ := m_tellLawF (x := 1) (f := f) (F1 := 130 * s + 130) (B := B) (B1 := 420 * s + 420) fm q37 (Nat.le_refl _) (by omega) (by omega)
    exact ⟨hc1, h3, ⟨F, P, cf, y1⟩, cRd_s (s2_r e1), eqE_trans (mRd_s (sM_r e2)) (lM_s b5 b7 y2), fun Q hq => r1 _ ⟨fun _ => hq, fun q => absurd rfl q⟩, fun Q hq => mIn Q (r2 _ (m_boundedF fm (y3 _ ⟨fun q => absurd q (FM_ne y1).2.1, fun _ => hq⟩)))⟩
  have S1' := S1
  obtain ⟨g1, ⟨_, gr1, _⟩, ⟨b1', b2', b3', b4', b5', b6', b7', b8'⟩, ⟨n1', n2', n3'⟩, _, _, _⟩ := S1'
  have f1 : eqE (scrC d) hc hc1 := eqE_w (fun a j q => by unfold scrC; omega) e1
  rcases L_bnd (lo := 1) (hi := 6) g1 (by omega) (by omega) with ⟨hc2, hm2, vb, ⟨F, P, cf, fm⟩, e3, e4, r3, r4⟩ | ⟨hk2, ht2, hc2, hc3, hm2, W2, Q2, g2, c2, hw, e3, e4, e5, r3, r4, r5⟩
  · left
    have q37 : gI hm2 0 37 = nI f := by rw [eqE_I e4 (by unfold sM; omega)]; exact b3'
    obtain ⟨h3, y1, y2, y3⟩ := m_tellLawF (x := 1) (f := f) (F1 := 130 * s + 130) (B := B) (B1 := 420 * s + 420) fm q37 (Nat.le_refl _) (by omega) (by omega)
    exact ⟨hc2, h3, ⟨F, P, cf, y1⟩, eqE_trans f1 (cRd_s (s2_r e3)), eqE_trans (mRd_s (sM_r e2)) (eqE_trans (mRd_s (sM_r e4)) (lM_s b5 b7 y2)), fun Q hq => r1 _ ⟨fun q => absurd q (by decide), fun _ => r3 _ ⟨fun _ => hq, fun q => absurd rfl q⟩⟩, fun Q hq => mIn Q (r2 _ (r4 _ (y3 _ ⟨fun q => absurd q (FM_ne y1).2.1, fun _ => hq⟩)))⟩
  have kv := tv_in g0.1.1 hk2
  obtain ⟨z, z6, zi, zo⟩ : ∃ z, z ≤ 6 ∧ (inB T (t + 1) 1 6 → z = tv T (t + 1)) ∧ (¬ inB T (t + 1) 1 6 → z = 0) := by
    by_cases r : inB T (t + 1) 1 6
    · exact ⟨tv T (t + 1), r.2, fun _ => rfl, fun n => absurd r n⟩
    · exact ⟨0, by omega, fun n => absurd n r, fun _ => rfl⟩
  let hcS := sI hc3 2 3 (nI z)
  have gS : GS T hcS hm2 (t + 1 + 1) W2 Q2 := GS_f (ag_c (by unfold kGC; omega)) (agI_r _) g2
  have S2 : TS T hcS hm2 d s (t + 1 + 1) W2 Q2 R NS K f B := TS_f S1 gS (by omega) (fun w => (hw.mp w).1) (eqE_sI (eqE_trans (s2_r e3) (s2_r e4)) (by unfold cRd; omega)) (sM_r e5)
  have rcS : ∀ Q : Int32 → hp → Prop, w_X5_readLaw hcS (fun r24 h23 => (r24 = 0 → (Q 0 h23)) ∧ (¬ (r24 = 0) → (w_X5_tellRow h23 (fun r27 h26 => (r27 = 0 → (Q 0 h26)) ∧ (¬ (r27 = 0) → (Q 1 h26)))))) → wcRow hc Q := fun Q hq => r1 _ ⟨fun q => absurd q (by decide), fun _ => r3 _ ⟨fun q => absurd q (by decide), fun _ => by
    unfold w_X5_noteSize w_X5_noteSize_0 w_X5_noteSize_22
    refine r4 _ (fun r => ⟨fun q => absurd q (by decide), fun _ => ?_⟩) (fun r => ⟨fun _ h6 e6 => ?_, fun q => absurd rfl q⟩)
    · refine takenH (k := 1) (GS_c g2) (by omega) (by rw [Nat.add_sub_cancel]; omega) (fun h6 e6 => ?_)
      rw [Nat.add_sub_cancel, kv.2.2, ← zi r] at e6
      subst e6
      exact ⟨fun q => absurd q (by decide), fun _ => hq⟩
    · have e6 : h6 = sI hc3 2 3 (nI 0) := e6
      rw [← zo r] at e6
      subst e6
      exact ⟨fun q => absurd q (by decide), fun _ => hq⟩⟩⟩
  have fcS : eqE (scrC d) hc hcS := eqE_sI (eqE_trans f1 (eqE_trans (cRd_s (s2_r e3)) (cRd_s (s2_r e4)))) (by unfold scrC; omega)
  have fmS : eqE (scrM s) hm hm2 := eqE_trans (mRd_s (sM_r e2)) (mRd_s (sM_r e5))
  have S2' := S2
  obtain ⟨_, ⟨_, gr2, _⟩, ⟨d1, d2, d3, d4, d5, d6, d7, d8⟩, ⟨m1, m2, m3⟩, ⟨m4, m5⟩, ⟨m6, m7⟩, v2⟩ := S2'
  rcases L_law (s := s) (i := 1) (BT := 420 * s) (F0 := 130 * s) (by omega) (by omega) a3 (by omega) gS d2 d3 d4 d1 d5 (by omega) d8 with ⟨hcL, hmL, ⟨F, P, cf, fm⟩, e6, e7, r6, r7⟩ | ⟨hcL, hmL, t1, L, ⟨gL1, q2, q3, q4, q5, q6, q7, q8, q9, q10, q11, q12⟩, r6, r7⟩
  · left
    exact ⟨hcL, hmL, ⟨F, P, cf, fm⟩, eqE_trans fcS (l_sC e6), eqE_trans fmS (lz_sM (by omega) b5 b7 e7), fun Q hq => rcS Q (r6 _ ⟨fun _ => hq, fun q => absurd rfl q⟩), fun Q hq => mIn Q (r2 _ (r5 _ (r7 _ ⟨fun q => absurd q (FM_ne fm).2.1, fun _ => hq⟩)))⟩
  right
  have c23 : gI hcL 2 3 = nI z := by rw [eqE_I q11 (by unfold lCs; omega)]; exact gI_at _ _ _ _
  have grL : gR hcL 1 = d := by rw [q11.2]; exact gr2
  have cL0 : gI hcL d 0 = nI R := by rw [eqE_I q11 (by unfold lCs; omega)]; exact m1
  obtain ⟨hcZ, x1, x2, x3, x4, x5⟩ := E_cRow q4 q3 c23 z6 a1 grL cL0 hR
  have mL19 : gI hmL 0 19 = nI s := by rw [eqE_I q12 (by unfold lMz lMs; omega)]; exact d1
  have mL20 : gI hmL 0 20 = nI R := by rw [eqE_I q12 (by unfold lMz lMs; omega)]; exact m3
  have mL9 : gI hmL 9 s = nI R := by rw [eqE_I q12 (by unfold lMz lMs; omega)]; exact m2
  obtain ⟨hmZ, y1, y2, y3, y4, y5, y6, y7⟩ := E_mRow (tn := t) q5 q3 z6 a3 mL19 hR mL20 mL9 (by omega)
  have gZ : GS T hcZ hmZ t1 W2 Q2 := GS_f (agI_e x1 (fun a j q z => by unfold kGC at q; unfold rwC at z; omega)) (agI_e y1 (fun a j q z => by unfold kGM at q; unfold rwM at z; omega)) gL1
  have cN : ∀ a j, 15 ≤ a → ¬ rwC d R a j → gI hcZ a j = gI hcS a j := fun a j h1 h2 => by rw [eqE_I x1 h2, eqE_I q11 (by unfold lCs; omega)]
  have mN : ∀ a j, 8 ≤ a → a ≤ 21 → ¬ rwM s R a j → gI hmZ a j = gI hm2 a j := fun a j h1 h2 h3 => by rw [eqE_I y1 h3, eqE_I q12 (by unfold lMz lMs; omega)]
  have m0 : ∀ j, ¬ rwM s R 0 j → gI hmZ 0 j = gI hmL 0 j := fun j h => eqE_I y1 h
  have SZ : TS T hcZ hmZ d s t1 W2 Q2 (R + 1) NS K (f + Lnb L + 1) (B + Lst L (Lnb L + 1)) := by
    refine TS_w2 S2 gZ (fun i => by rw [x1.2, q11.2]) (by rw [m0 19 (by unfold rwM; omega), mL19, d1]) (by rw [m0 12 (by unfold rwM; omega)]; exact q6) (by rw [m0 37 (by unfold rwM; omega)]; exact q7) (by rw [m0 43 (by unfold rwM; omega)]; exact q8) (by omega) q9 (by omega) q10 ⟨by omega, a5, a6⟩ ⟨x2, y2, y3⟩ ⟨by rw [cN _ _ (by omega) (by unfold rwC; omega)]; exact m4, by rw [mN _ _ (by decide) (by decide) (by unfold rwM; omega)]; exact m5⟩ ⟨by rw [cN _ _ (by omega) (by unfold rwC; omega)]; exact m6, by rw [mN _ _ (by decide) (by decide) (by unfold rwM; omega)]; exact m7⟩ (fun w => ?_)
    obtain ⟨⟨Sz, N, u1, ⟨u2, u3⟩, ⟨u4, u5⟩, u6⟩, v2', v3, v4, v5, v6, v7⟩ := v2 w
    have ac : ∀ X : Nat → Nat → Prop, (∀ a j, X a j → 15 ≤ a ∧ ¬ rwC d R a j) → agI X hcS hcZ := fun X q => agI_t (agI_e q11 (fun a j z z' => by have := q a j z; unfold lCs at z'; omega)) (agI_e x1 (fun a j z z' => (q a j z).2 z'))
    have am : ∀ X : Nat → Nat → Prop, (∀ a j, X a j → ¬ lMz f (130 * s + 130) B (420 * s + 420) (2 * s + 1) a j ∧ ¬ rwM s R a j) → agI X hm2 hmZ := fun X q => agI_t (agI_e q12 (fun a j z z' => (q a j z).1 z')) (agI_e y1 (fun a j z z' => (q a j z).2 z'))
    have eS : ∀ r, r < R → (if r = R then z else Sz r) = Sz r := fun r hr => if_neg (by omega)
    have nmZ : gL hcZ (d + 2) R = tbV T t := by
      rw [eqE_L x1 (by unfold rwC; omega), eqE_L q11 (by unfold lCs; omega)]
      show gL hc3 (d + 2) R = _
      rw [eqE_L e4 (by unfold s2; omega), eqE_L e3 (by unfold s2; omega)]
      exact nm
    have nmM : gL hmZ 8 R = tbV T t := by
      rw [y6]
      exact (gL1.1.2.2.1 t t4 tc).2.2.2 hk
    refine ⟨⟨fun r => if r = R then z else Sz r, fun r k => if r = R then prF L z (k + 1) else N r k, ⟨by omega, fun r hr => ?_⟩, ⟨x2, fun r hr => ?_⟩, ⟨y2, fun r hr => ?_⟩, fun k hk' => ?_⟩, dShr_f a5 (ac _ (fun a j q => by unfold kShC at q; unfold rwC; omega)) (am _ (fun a j q => by unfold kShM at q; unfold lMz lMs rwM; omega)) v2', dPri_f (ac _ (fun a j q => by unfold kPrC at q; unfold rwC; omega)) (am _ (fun a j q => by unfold kPrM at q; unfold lMz lMs rwM; omega)) v3, dBag_f (ac _ (fun a j q => by unfold kBgC at q; unfold rwC; omega)) (am _ (fun a j q => by unfold kBgM at q; unfold lMz lMs rwM; omega)) v4, dWld_f (ac _ (fun a j q => by unfold kWlC at q; unfold rwC; omega)) (am _ (fun a j q => by unfold kWlM at q; unfold lMz lMs rwM; omega)) v5, dLia_f (ac _ (fun a j q => by unfold kLiC at q; unfold rwC; omega)) (am _ (fun a j q => by unfold kLiM at q; unfold lMz lMs rwM; omega)) v6, dAsk_f (by omega) (by omega) (ac _ (fun a j q => by unfold kAsC at q; unfold rwC; omega)) (am _ (fun a j q => by unfold kAsM at q; unfold lMz lMs rwM; omega)) v7⟩
    · show (if r = R then z else Sz r) ≤ 6 ∧ ∀ k, k < (if r = R then z else Sz r) → -99 ≤ (if r = R then prF L z (k + 1) else N r k).toInt ∧ (if r = R then prF L z (k + 1) else N r k).toInt ≤ 99
      by_cases c : r = R
      · rw [if_pos c]
        exact ⟨z6, fun k _ => by rw [if_pos c]; exact prF_in L z k⟩
      · rw [if_neg c]
        exact ⟨(u1.2 r (by omega)).1, fun k hk' => by rw [if_neg c]; exact (u1.2 r (by omega)).2 k hk'⟩
    · show gI hcZ (d + 1) r = nI (if r = R then z else Sz r) ∧ ∀ k, k < (if r = R then z else Sz r) → gI hcZ (d + 3) (6 * r + k) = (if r = R then prF L z (k + 1) else N r k)
      by_cases c : r = R
      · subst c
        rw [if_pos rfl]
        exact ⟨x3, fun k hk' => by rw [if_pos rfl]; exact x4 k hk'⟩
      · rw [if_neg c, cN _ _ (by omega) (by unfold rwC; omega)]
        refine ⟨(u3 r (by omega)).1, fun k hk' => ?_⟩
        have := (u1.2 r (by omega)).1
        rw [if_neg c, cN _ _ (by omega) (by unfold rwC; omega)]
        exact (u3 r (by omega)).2 k hk'
    · show gI hmZ 10 (6 * s + r) = nI (if r = R then z else Sz r) ∧ ∀ k, k < (if r = R then z else Sz r) → gI hmZ 11 (36 * s + 6 * r + k) = (if r = R then prF L z (k + 1) else N r k)
      by_cases c : r = R
      · subst c
        rw [if_pos rfl]
        exact ⟨y4, fun k hk' => by rw [if_pos rfl]; exact y5 k hk'⟩
      · rw [if_neg c, mN _ _ (by decide) (by decide) (by unfold rwM; omega)]
        refine ⟨(u5 r (by omega)).1, fun k hk' => ?_⟩
        have := (u1.2 r (by omega)).1
        rw [if_neg c, mN _ _ (by decide) (by decide) (by unfold rwM; omega)]
        exact (u5 r (by omega)).2 k hk'
    · by_cases c : k = R
      · subst c; rw [nmZ, nmM]
      · rw [eqE_L x1 (by unfold rwC; omega), eqE_L q11 (by unfold lCs; omega), eqE_L y1 (by unfold rwM; omega), eqE_L q12 (by unfold lMz lMs; omega)]
        exact u6 k (by omega)
  refine ⟨hcZ, hmZ, t1, W2, Q2, R + 1, NS, K, _, _, SZ, by omega, eqE_trans fcS (eqE_trans (l_sC q11) (eqE_w (fun a j q => by unfold rwC at q; unfold scrC; omega) x1)), eqE_trans fmS (eqE_trans (lz_sM (by omega) b5 b7 q12) (rwM_s hR y1)), fun Q hq => rcS Q (r6 _ ⟨fun q => absurd q (by decide), fun _ => x5 _ ⟨fun q => absurd q (by decide), fun _ => hq⟩⟩), fun Q hq => mIn Q (r2 _ (r5 _ (r7 _ ⟨fun _ => ?_, fun q => absurd (by rw [(GS_0 gL1).1]; decide) q⟩)))⟩
  have l1 : nI (tv T (t + 1)) < 1 ↔ tv T (t + 1) < 1 := by rw [t_lt, n_toInt (by omega), show (1 : Int32).toInt = 1 from rfl]; omega
  have l6 : nI (tv T (t + 1)) ≤ 6 ↔ tv T (t + 1) ≤ 6 := nI_leI (b := 6) (by omega) (by omega)
  rw [l1, l6]
  refine ⟨fun c => ?_, fun c => ⟨fun c6 => ?_, fun c6 => ?_⟩⟩
  · have zz := zo (fun r => by have := r.1; omega)
    have := y7 Q hq
    rw [zz] at this
    exact this
  · have zz := zi ⟨by omega, c6⟩
    have := y7 Q hq
    rw [zz] at this
    exact this
  · have zz := zo (fun r => by have := r.2; omega)
    have := y7 Q hq
    rw [zz] at this
    exact this
/-! a row by its numbers -/
def lsC (d R : Nat) (a j : Nat) : Prop := (a = 2 ∧ j < 3) ∨ (a = d + 3 ∧ 6 * R ≤ j)
def lsM (s R : Nat) (a j : Nat) : Prop := sM a j ∨ (a = 11 ∧ 36 * s + 6 * R ≤ j ∧ j < 36 * s + 6 * R + 6)
def VL (d s R k : Nat) (hc hm : hp) : Prop := ∃ N : Nat → Int32, ∀ j, j < k → gI hc (d + 3) (6 * R + j) = N j ∧ gI hm 11 (36 * s + 6 * R + j) = N j ∧ -99 ≤ (N j).toInt ∧ (N j).toInt ≤ 99
theorem s2_ls {d R : Nat} {h h1 : hp} (e : eqE s2 h h1) : eqE (lsC d R) h h1 := eqE_w (fun a j q => Or.inl q) e
theorem sM_ls {s R : Nat} {h h1 : hp} (e : eqE sM h h1) : eqE (lsM s R) h h1 := eqE_w (fun a j q => Or.inl q) e
def LBad (hc hm : hp) (d s R k tn : Nat) : Prop := ∃ hc1 hm1, BS hc1 hm1 ∧ eqE (lsC d R) hc hc1 ∧ eqE (lsM s R) hm hm1 ∧ (∀ (Q : Int32 → hp → Prop) (X : Int32 × Int32 × hp → Prop), (∀ q, w_X5_readList_b4 Q X q.1 q.2.1 q.2.2 → X q) → Q 0 hc1 → X (nI k, nI k, hc)) ∧ (∀ (Q : hp → Prop) (X : Int32 × hp → Prop), (∀ q, w_X12_tellList_b17 Q (nI R) (nI tn) X q.1 q.2 → X q) → Q hm1 → X (nI k, hm))
def LEnd (T : Tb) (hc hm : hp) (d s R k tn t W : Nat) : Prop := ∃ hc1 hm1 t1 W1 Q1 k1, tbK T t1 = 4 ∧ GS T hc1 hm1 t1 W1 Q1 ∧ k1 ≤ 6 ∧ t ≤ t1 ∧ (W1 = 0 → W = 0 ∧ VL d s R k1 hc1 hm1) ∧ eqE (lsC d R) hc hc1 ∧ eqE (lsM s R) hm hm1 ∧ (∀ (Q : Int32 → hp → Prop) (X : Int32 × Int32 × hp → Prop), (∀ q, w_X5_readList_b4 Q X q.1 q.2.1 q.2.2 → X q) → w_X5_readList_125 Q (nI k1) hc1 → X (nI k, nI k, hc)) ∧ (∀ (Q : hp → Prop) (X : Int32 × hp → Prop), (∀ q, w_X12_tellList_b17 Q (nI R) (nI tn) X q.1 q.2 → X q) → w_X12_tellList_140 Q (nI R) (nI tn) (nI k1) hm1 → X (nI k, hm))
/-- one number, behind its sign -/
theorem L_lnum {T : Tb} {hc hm : hp} {d s R k tn t W : Nat} {Q0 sg : Int32} (hd : isO d) (gr : gR hc 1 = d) (e0 : gI hc d 0 = nI R) (hR : R < 6) (hs : s < 2) (m19 : gI hm 0 19 = nI s) (g : GS T hc hm t W Q0) (hk : k ≤ 6) (v : W = 0 → VL d s R k hc hm) :
    (∃ hc1 hm1, BS hc1 hm1 ∧ eqE (lsC d R) hc hc1 ∧ eqE (lsM s R) hm hm1 ∧ (∀ (Q : Int32 → hp → Prop) (X : Int32 × Int32 × hp → Prop), Q 0 hc1 → w_X5_readList_49 Q X (nI k) (nI k) sg hc) ∧ (∀ (Q : hp → Prop) (X : Int32 × hp → Prop), Q hm1 → w_X12_tellList_58 Q X (nI R) (nI tn) (nI k) sg hm)) ∨
    (∃ hc1 hm1 W1 Q1, k + 1 ≤ 6 ∧ GS T hc1 hm1 (t + 1) W1 Q1 ∧ (W1 = 0 → W = 0 ∧ VL d s R (k + 1) hc1 hm1) ∧ eqE (lsC d R) hc hc1 ∧ eqE (lsM s R) hm hm1 ∧ (∀ (Q : Int32 → hp → Prop) (X : Int32 × Int32 × hp → Prop), X (nI (k + 1), nI (k + 1), hc1) → w_X5_readList_49 Q X (nI k) (nI k) sg hc) ∧ (∀ (Q : hp → Prop) (X : Int32 × hp → Prop), X (nI (k + 1), hm1) → w_X12_tellList_58 Q X (nI R) (nI tn) (nI k) sg hm)) := by
  have hd' := O18 hd
  have z13 := GS_0 g
  have gc := GS_c g
  have gm := GS_m g
  have k6 : nI k = 6 ↔ k = 6 := nI_eq (b := 6) (by omega) (by omega)
  by_cases full : k = 6 ∧ tbK T t = 2
  · left
    obtain ⟨ek, hk2⟩ := full
    have fm := FM_st (F := 2) gm (by omega) (by omega)
    refine ⟨cSt T hc 2 t, mSt T hm 2 t, ⟨2, _, CF_st, fm⟩, s2_ls cSt_e, sM_ls mSt_e, fun Q X hq => ?_, fun Q X hq => ?_⟩
    · unfold w_X5_readList_49
      exact ⟨fun n => absurd (k6.mpr ek) n, fun _ => kindH gc ⟨fun n => absurd (by rw [hk2]; rfl) n, fun _ => stopH (F := 2) gc ⟨isZ0, hq⟩⟩⟩
    · unfold w_X12_tellList_58
      refine isH (x := 2) gm (by omega) (fun _ => ⟨fun q => absurd q (by decide), fun _ => ⟨fun n => absurd (k6.mpr ek) n, fun _ => failH (F := 2) gm ?_⟩⟩) (fun n => absurd hk2 n)
      unfold w_X12_tellList_77
      exact ⟨fun q => absurd q (FM_ne fm).2.1, fun _ => hq⟩
  · -- to the class's take and the reference's number
    have cIn : ∀ (Q : Int32 → hp → Prop) (X : Int32 × Int32 × hp → Prop), w_X5_readList_69 Q X (nI k) (nI k) sg hc → w_X5_readList_49 Q X (nI k) (nI k) sg hc := fun Q X hq => by
      unfold w_X5_readList_49
      exact ⟨fun _ => hq, fun q => kindH gc ⟨fun _ => hq, fun c => absurd ⟨k6.mp q, (cK_inj (b := 2) (g.1.1.2.1 t) (by omega)).mp c⟩ full⟩⟩
    have mIn : ∀ (Q : hp → Prop) (X : Int32 × hp → Prop), w_X12_tellList_77 Q X (nI R) (nI tn) (nI k) sg hm → w_X12_tellList_58 Q X (nI R) (nI tn) (nI k) sg hm := fun Q X hq => by
      unfold w_X12_tellList_58
      exact isH (x := 2) gm (by omega) (fun c => ⟨fun q => absurd q (by decide), fun _ => ⟨fun _ => hq, fun q => absurd ⟨k6.mp q, c⟩ full⟩⟩) (fun _ => ⟨fun _ => hq, fun q => absurd rfl q⟩)
    rcases L_bnd (lo := 0) (hi := 99) g (by omega) (by omega) with ⟨hc1, hm1, vb, ⟨F, P, cf, fm⟩, e1, e2, r1, r2⟩ | ⟨hk2, ht, hc1, hc2, hm1, W1, Q1, g1, c1, hw, e1, e2, e3, r1, r2, r3⟩
    · left
      refine ⟨hc1, hm1, ⟨F, P, cf, fm⟩, s2_ls e1, sM_ls e2, fun Q X hq => cIn Q X ?_, fun Q X hq => mIn Q X ?_⟩
      · unfold w_X5_readList_69
        exact r1 _ ⟨fun q => absurd rfl q, fun _ => hq⟩
      · unfold w_X12_tellList_77
        exact ⟨fun _ => r2 _ ⟨fun q => absurd q (FM_ne fm).2.1, fun _ => hq⟩, fun q => absurd z13.2.1 q⟩
    · right
      have kv := tv_in g.1.1 hk2
      have k5 : k < 6 := by omega
      obtain ⟨vv, ev, ev2⟩ : ∃ vv : Int32, (sg = 0 → vv = nI (tv T t)) ∧ (¬ sg = 0 → vv = -(nI (tv T t))) := by
        by_cases c : sg = 0
        · exact ⟨nI (tv T t), fun _ => rfl, fun n => absurd c n⟩
        · exact ⟨-(nI (tv T t)), fun q => absurd q c, fun _ => rfl⟩
      have gr2 : gR hc2 1 = d := by rw [e2.2, e1.2]; exact gr
      have e02 : gI hc2 d 0 = nI R := by rw [eqE_I e2 (by unfold s2; omega), eqE_I e1 (by unfold s2; omega)]; exact e0
      have m19' : gI hm1 0 19 = nI s := by rw [eqE_I e3 (by unfold sM; omega)]; exact m19
      let hcZ := sI hc2 (d + 3) (6 * R + k) vv
      let hmZ := sI hm1 11 (36 * s + 6 * R + k) vv
      have gZ : GS T hcZ hmZ (t + 1) W1 Q1 := GS_f (ag_c (by unfold kGC; omega)) (ag_c (by unfold kGM; omega)) g1
      have e36 : 36 * nI s + 6 * nI R + nI k = nI (36 * s + 6 * R + k) := by rw [show (36 : Int32) = nI 36 from rfl, show (6 : Int32) = nI 6 from rfl, nI_mul (by omega) (by omega) (by omega), nI_mul (by omega) (by omega) (by omega), nI_add, nI_add]
      refine ⟨hcZ, hmZ, W1, Q1, by omega, gZ, fun w => ?_, eqE_sI (eqE_trans (s2_ls e1) (s2_ls e2)) (by unfold lsC; omega), eqE_sI (sM_ls e3) (by unfold lsM; omega), fun Q X hq => cIn Q X ?_, fun Q X hq => mIn Q X ?_⟩
      · obtain ⟨w0, ib⟩ := hw.mp w
        obtain ⟨N, hN⟩ := v w0
        refine ⟨w0, fun j => if j = k then vv else N j, fun j hj => ?_⟩
        show gI hcZ (d + 3) (6 * R + j) = (if j = k then vv else N j) ∧ gI hmZ 11 (36 * s + 6 * R + j) = (if j = k then vv else N j) ∧ -99 ≤ (if j = k then vv else N j).toInt ∧ (if j = k then vv else N j).toInt ≤ 99
        by_cases c : j = k
        · subst c
          rw [if_pos rfl]
          refine ⟨gI_at _ _ _ _, gI_at _ _ _ _, ?_⟩
          have en : (nI (tv T t)).toInt = (tv T t : Int) := n_toInt (by omega)
          have := ib.2
          by_cases z : sg = 0
          · rw [ev z, en]; omega
          · have : (-(nI (tv T t))).toInt = -(tv T t : Int) := by rw [Int32.toInt_neg, bm32 (by omega) (by omega), en]
            rw [ev2 z, this]; omega
        · rw [if_neg c]
          obtain ⟨h1, h2, h3⟩ := hN j (by omega)
          refine ⟨?_, ?_, h3⟩
          · show gI (sI hc2 (d + 3) _ vv) _ _ = _
            rw [gI_k _ _ (by omega), eqE_I e2 (by unfold s2; omega), eqE_I e1 (by unfold s2; omega)]; exact h1
          · show gI (sI hm1 11 _ vv) _ _ = _
            rw [gI_k _ _ (by omega), eqE_I e3 (by unfold sM; omega)]; exact h2
      · unfold w_X5_readList_69
        refine r1 _ ⟨fun _ => ?_, fun q => absurd q (by decide)⟩
        have fin : w_X5_taken hc2 1 (fun r23 => ∀ x4_25, x4_25 = r23.toInt32 → (shC (gR hc2 1) = 7 ∧ ((sg = 0 → (w_X5_readList_113 Q X (nI k) (nI k) hc2 x4_25 (nI k) (gR hc2 1))) ∧ (¬ (sg = 0) → (w_X5_readList_113 Q X (nI k) (nI k) hc2 (-x4_25) (nI k) (gR hc2 1)))))) := by
          refine takenH (k := 1) (GS_c g1) (by omega) (by rw [Nat.add_sub_cancel]; omega) (fun x4 ex => ?_)
          rw [Nat.add_sub_cancel, kv.2.2] at ex
          subst ex
          rw [gr2]
          have put : w_X5_readList_113 Q X (nI k) (nI k) hc2 vv (nI k) d := by
            unfold w_X5_readList_113
            refine c_tellNum e02 hR k5 (fun y ey y2 ey2 => ?_)
            rw [← nI_succ] at ey ey2
            subst ey ey2
            exact hq
          refine ⟨shO7 hd, fun c => ?_, fun c => ?_⟩
          · rw [← ev c]; exact put
          · rw [← ev2 c]; exact put
        exact r2 _ (fun _ => fin) (fun _ => fin)
      · unfold w_X12_tellList_77
        refine ⟨fun _ => r3 _ ⟨fun _ => ?_, fun q => absurd (by rw [(GS_0 g1).1]; decide) q⟩, fun q => absurd z13.2.1 q⟩
        rw [m19', e36]
        have put : w_X12_tellList_133 Q X (nI R) (nI tn) (nI k) hm1 vv (nI (36 * s + 6 * R + k)) := by
          unfold w_X12_tellList_133
          rw [ix_n (n := 36 * s + 6 * R + k) (by omega)]
          refine ⟨in_n (by omega) (by omega), fun h25 e25 y ey => ?_⟩
          rw [← nI_succ] at ey
          subst e25 ey
          exact hq
        refine ⟨fun c => ?_, fun c => ?_⟩
        · rw [← ev c]; exact put
        · rw [← ev2 c]; exact put
theorem VL_f {d s R k : Nat} {hc hm hc1 hm1 : hp} (ec : ∀ j, gI hc1 (d + 3) j = gI hc (d + 3) j) (em : ∀ j, gI hm1 11 j = gI hm 11 j) (v : VL d s R k hc hm) : VL d s R k hc1 hm1 := by
  obtain ⟨N, hN⟩ := v
  exact ⟨N, fun j hj => by rw [ec, em]; exact hN j hj⟩
theorem L_list {T : Tb} {d s R tn : Nat} (hd : isO d) (hR : R < 6) (hs : s < 2) : ∀ (n : Nat) (t : Nat) (hc hm : hp) (k W : Nat) (Q0 : Int32), 401 - t = n → gR hc 1 = d → gI hc d 0 = nI R → gI hm 0 19 = nI s → GS T hc hm t W Q0 → k ≤ 6 → (W = 0 → VL d s R k hc hm) → LBad hc hm d s R k tn ∨ LEnd T hc hm d s R k tn t W := by
  intro n
  induction n using Nat.strongRecOn with
  | ind n ih =>
    intro t hc hm k W Q0 hn gr e0 m19 g hk v
    have hd' := O18 hd
    have t4 := g.1.2.2.2.1
    have z13 := GS_0 g
    have gc := GS_c g
    have gm := GS_m g
    have k36 := g.1.1.2.1 t
    have n6 : ¬ (6 : Int32) < nI k := nI_nlt (a := 6) (b := k) hk (by omega)
    -- into the class's turn
    have cIn : ∀ (Q : Int32 → hp → Prop) (X : Int32 × Int32 × hp → Prop), (∀ q, w_X5_readList_b4 Q X q.1 q.2.1 q.2.2 → X q) → (tbK T t = 4 → w_X5_readList_125 Q (nI k) hc) → (¬ tbK T t = 4 → ¬ tbK T t = 9 → w_X5_readList_49 Q X (nI k) (nI k) 0 hc) → (tbK T t = 9 → w_X5_take hc 45 (fun r10 h9 => (¬ r10 = 0 → (w_X5_readList_49 Q X (nI k) (nI k) 1 h9)) ∧ (r10 = 0 → (Q 0 h9)))) → X (nI k, nI k, hc) := fun Q X cl q4 q0 q9 => cl _ (by
      show w_X5_readList_b4 Q X (nI k) (nI k) hc
      unfold w_X5_readList_b4
      refine ⟨fun c => absurd c n6, fun _ => kindH gc ⟨fun c => q4 ((cK_inj (b := 4) k36 (by omega)).mp c), fun n4 => kindH gc ⟨fun n9 => ?_, fun c9 => ?_⟩⟩⟩
      · unfold w_X5_readList_33
        exact ⟨fun _ => q0 (fun c => n4 (by rw [c]; rfl)) (fun c => n9 (by rw [c]; rfl)), fun q => absurd rfl q⟩
      · unfold w_X5_readList_33
        exact ⟨fun q => absurd q (by decide), fun _ => q9 ((cK_inj (b := 9) k36 (by omega)).mp c9)⟩)
    have mIn : ∀ (Q : hp → Prop) (X : Int32 × hp → Prop), (∀ q, w_X12_tellList_b17 Q (nI R) (nI tn) X q.1 q.2 → X q) → (¬ (tbK T t = 2 ∨ tbK T t = 9) → w_X12_tellList_140 Q (nI R) (nI tn) (nI k) hm) → ((tbK T t = 2 ∨ tbK T t = 9) → w_X12_tellList_41 Q X (nI R) (nI tn) (nI k) hm) → X (nI k, hm) := fun Q X cl q0 q1 => cl _ (by
      show w_X12_tellList_b17 Q (nI R) (nI tn) X (nI k) hm
      unfold w_X12_tellList_b17
      exact ⟨fun q => absurd z13.1 q, fun _ => isH (x := 2) gm (by omega) (fun c => ⟨fun _ => q1 (Or.inl c), fun q => absurd q (by decide)⟩) (fun n2 => ⟨fun q => absurd rfl q, fun _ => isH (x := 9) gm (by omega) (fun c => ⟨fun q => absurd q (by decide), fun _ => q1 (Or.inr c)⟩) (fun n9 => ⟨fun _ => q0 (fun q => by omega), fun q => absurd rfl q⟩)⟩)⟩)
    by_cases c4 : tbK T t = 4
    · right
      exact ⟨hc, hm, t, W, Q0, k, c4, g, hk, Nat.le_refl _, fun w => ⟨w, v w⟩, eqE_refl _, eqE_refl _, fun Q X cl hq => cIn Q X cl (fun _ => hq) (fun n => absurd c4 n) (fun q => by omega), fun Q X cl hq => mIn Q X cl (fun _ => hq) (fun q => by omega)⟩
    by_cases c9 : tbK T t = 9
    · rcases L_next g (by omega) with ⟨hc1, hm1, e1, e2, g1, r1, r2⟩ | ⟨hc1, hm1, e1, e2, ⟨F, P, cf, fm⟩, r1, r2⟩
      · rw [c9] at r1
        have gr1 : gR hc1 1 = d := by rw [e1.2]; exact gr
        have e01 : gI hc1 d 0 = nI R := by rw [eqE_I e1 (by unfold s2; omega)]; exact e0
        have m191 : gI hm1 0 19 = nI s := by rw [eqE_I e2 (by unfold sM; omega)]; exact m19
        have cPre : ∀ (Q : Int32 → hp → Prop) (X : Int32 × Int32 × hp → Prop), (∀ q, w_X5_readList_b4 Q X q.1 q.2.1 q.2.2 → X q) → w_X5_readList_49 Q X (nI k) (nI k) 1 hc1 → X (nI k, nI k, hc) := fun Q X cl hq => cIn Q X cl (fun c => absurd c c4) (fun _ n => absurd c9 n) (fun _ => r1 _ ⟨fun _ => hq, fun q => absurd q (by decide)⟩)
        have mPre : ∀ (Q : hp → Prop) (X : Int32 × hp → Prop), (∀ q, w_X12_tellList_b17 Q (nI R) (nI tn) X q.1 q.2 → X q) → w_X12_tellList_58 Q X (nI R) (nI tn) (nI k) 1 hm1 → X (nI k, hm) := fun Q X cl hq => mIn Q X cl (fun n => absurd (Or.inr c9) n) (fun _ => by
          unfold w_X12_tellList_41
          exact isH (x := 9) gm (by omega) (fun _ => ⟨fun q => absurd q (by decide), fun _ => r2 _ hq⟩) (fun n => absurd c9 n))
        rcases L_lnum (tn := tn) (sg := 1) hd gr1 e01 hR hs m191 g1 hk (fun w => VL_f (fun j => eqE_I e1 (by unfold s2; omega)) (fun j => eqE_I e2 (by unfold sM; omega)) (v w)) with ⟨hc2, hm2, b, u1, u2, u3, u4⟩ | ⟨hc2, hm2, W1, Q1, k1, g2, u0, u1, u2, u3, u4⟩
        · exact Or.inl ⟨hc2, hm2, b, eqE_trans (s2_ls e1) u1, eqE_trans (sM_ls e2) u2, fun Q X cl hq => cPre Q X cl (u3 Q X hq), fun Q X cl hq => mPre Q X cl (u4 Q X hq)⟩
        · have t24 := g2.1.2.2.2.1
          rcases ih (401 - (t + 1 + 1)) (by omega) (t + 1 + 1) hc2 hm2 (k + 1) W1 Q1 rfl (by rw [u1.2]; exact gr1) (by rw [eqE_I u1 (by unfold lsC; omega)]; exact e01) (by rw [eqE_I u2 (by unfold lsM sM; omega)]; exact m191) g2 k1 (fun w => (u0 w).2) with ⟨hc3, hm3, b, y1, y2, y3, y4⟩ | ⟨hc3, hm3, t3, W3, Q3, k3, y0, y1, y2, y3, y4, y5, y6, y7, y8⟩
          · exact Or.inl ⟨hc3, hm3, b, eqE_trans (s2_ls e1) (eqE_trans u1 y1), eqE_trans (sM_ls e2) (eqE_trans u2 y2), fun Q X cl hq => cPre Q X cl (u3 Q X (y3 Q X cl hq)), fun Q X cl hq => mPre Q X cl (u4 Q X (y4 Q X cl hq))⟩
          · exact Or.inr ⟨hc3, hm3, t3, W3, Q3, k3, y0, y1, y2, by omega, fun w => ⟨(u0 (y4 w).1).1, (y4 w).2⟩, eqE_trans (s2_ls e1) (eqE_trans u1 y5), eqE_trans (sM_ls e2) (eqE_trans u2 y6), fun Q X cl hq => cPre Q X cl (u3 Q X (y7 Q X cl hq)), fun Q X cl hq => mPre Q X cl (u4 Q X (y8 Q X cl hq))⟩
      · left
        rw [c9] at r1
        refine ⟨hc1, hm1, ⟨F, P, cf, fm⟩, s2_ls e1, sM_ls e2, fun Q X cl hq => cIn Q X cl (fun c => absurd c c4) (fun _ n => absurd c9 n) (fun _ => r1 _ ⟨fun q => absurd rfl q, fun _ => hq⟩), fun Q X cl hq => mIn Q X cl (fun n => absurd (Or.inr c9) n) (fun _ => ?_)⟩
        unfold w_X12_tellList_41 w_X12_tellList_58 w_X12_tellList_77
        exact isH (x := 9) gm (by omega) (fun _ => ⟨fun q => absurd q (by decide), fun _ => r2 _ (m_isF fm ⟨fun _ => ⟨fun q => absurd q (FM_ne fm).2.1, fun _ => hq⟩, fun q => absurd rfl q⟩)⟩) (fun n => absurd c9 n)
    by_cases c2 : tbK T t = 2
    · have cPre : ∀ (Q : Int32 → hp → Prop) (X : Int32 × Int32 × hp → Prop), (∀ q, w_X5_readList_b4 Q X q.1 q.2.1 q.2.2 → X q) → w_X5_readList_49 Q X (nI k) (nI k) 0 hc → X (nI k, nI k, hc) := fun Q X cl hq => cIn Q X cl (fun c => absurd c c4) (fun _ _ => hq) (fun c => absurd c c9)
      have mPre : ∀ (Q : hp → Prop) (X : Int32 × hp → Prop), (∀ q, w_X12_tellList_b17 Q (nI R) (nI tn) X q.1 q.2 → X q) → w_X12_tellList_58 Q X (nI R) (nI tn) (nI k) 0 hm → X (nI k, hm) := fun Q X cl hq => mIn Q X cl (fun n => absurd (Or.inl c2) n) (fun _ => by
        unfold w_X12_tellList_41
        exact isH (x := 9) gm (by omega) (fun c => absurd c c9) (fun _ => ⟨fun _ => hq, fun q => absurd rfl q⟩))
      rcases L_lnum (tn := tn) (sg := 0) hd gr e0 hR hs m19 g hk v with ⟨hc2, hm2, b, u1, u2, u3, u4⟩ | ⟨hc2, hm2, W1, Q1, k1, g2, u0, u1, u2, u3, u4⟩
      · exact Or.inl ⟨hc2, hm2, b, u1, u2, fun Q X cl hq => cPre Q X cl (u3 Q X hq), fun Q X cl hq => mPre Q X cl (u4 Q X hq)⟩
      · have t24 := g2.1.2.2.2.1
        rcases ih (401 - (t + 1)) (by omega) (t + 1) hc2 hm2 (k + 1) W1 Q1 rfl (by rw [u1.2]; exact gr) (by rw [eqE_I u1 (by unfold lsC; omega)]; exact e0) (by rw [eqE_I u2 (by unfold lsM sM; omega)]; exact m19) g2 k1 (fun w => (u0 w).2) with ⟨hc3, hm3, b, y1, y2, y3, y4⟩ | ⟨hc3, hm3, t3, W3, Q3, k3, y0, y1, y2, y3, y4, y5, y6, y7, y8⟩
        · exact Or.inl ⟨hc3, hm3, b, eqE_trans u1 y1, eqE_trans u2 y2, fun Q X cl hq => cPre Q X cl (u3 Q X (y3 Q X cl hq)), fun Q X cl hq => mPre Q X cl (u4 Q X (y4 Q X cl hq))⟩
        · exact Or.inr ⟨hc3, hm3, t3, W3, Q3, k3, y0, y1, y2, by omega, fun w => ⟨(u0 (y4 w).1).1, (y4 w).2⟩, eqE_trans u1 y5, eqE_trans u2 y6, fun Q X cl hq => cPre Q X cl (u3 Q X (y7 Q X cl hq)), fun Q X cl hq => mPre Q X cl (u4 Q X (y8 Q X cl hq))⟩
    · -- neither
      left
      have fm := FM_st (F := 1) gm (by omega) (by omega)
      refine ⟨cSt T hc 1 t, mSt T hm 1 t, ⟨1, _, CF_st, fm⟩, s2_ls cSt_e, sM_ls mSt_e, fun Q X cl hq => cIn Q X cl (fun c => absurd c c4) (fun _ _ => ?_) (fun c => absurd c c9), fun Q X cl hq => mIn Q X cl (fun _ => ?_) (fun q => by omega)⟩
      · have go : w_X5_readList_69 Q X (nI k) (nI k) 0 hc := by
          unfold w_X5_readList_69
          exact take3 (x := 2) gc (by omega) c2 ⟨fun q => absurd rfl q, fun _ => hq⟩
        unfold w_X5_readList_49
        exact ⟨fun _ => go, fun _ => kindH gc ⟨fun _ => go, fun c => absurd ((cK_inj (b := 2) k36 (by omega)).mp c) c2⟩⟩
      · unfold w_X12_tellList_140
        exact must3 (x := 4) gm (by omega) c4 ⟨fun q => absurd q (FM_ne fm).2.1, fun _ => hq⟩
def wcLst (hc : hp) (Q : Int32 → hp → Prop) : Prop := w_X5_takeName hc (fun r31 h30 => (r31 = 0 → (Q 0 h30)) ∧ (¬ (r31 = 0) → (w_X5_readList h30 (fun r34 h33 => (r34 = 0 → (Q 0 h33)) ∧ (¬ (r34 = 0) → (w_X5_take h33 59 (fun r37 h36 => (r37 = 0 → (Q 0 h36)) ∧ (¬ (r37 = 0) → (Q 1 h36)))))))))
theorem T_lst {T : Tb} {hc hm : hp} {d s t W : Nat} {Q0 : Int32} {R NS K f B : Nat} (S : TS T hc hm d s t W Q0 R NS K f B) (hR : R < 6) : TOut T hc hm d s t (wcLst hc) (fun Q => w_X12_tellList hm Q) := by
  have S0 := S
  obtain ⟨g0, ⟨a1, a2, a3, a4, a5, a6⟩, ⟨b1, b2, b3, b4, b5, b6, b7, b8⟩, ⟨n1, n2, n3⟩, _, _, _⟩ := S
  have hd := O18 a1
  have t4 := g0.1.2.2.2.1
  have tc := g0.1.2.2.2.2.1
  have ixs : ix (nI s) = s := ix_n (by omega)
  have ins : vp_in (nI s) 2 := in_n a3 (by omega)
  have e6 : 6 * nI s + nI R = nI (6 * s + R) := by rw [show (6 : Int32) = nI 6 from rfl, nI_mul (by omega) (by omega) (by omega), nI_add]
  have lsC_s : ∀ {h h1 : hp}, eqE (lsC d R) h h1 → eqE (scrC d) h h1 := fun e => eqE_w (fun a j q => by unfold lsC at q; unfold scrC; omega) e
  have lsM_s : ∀ {h h1 : hp}, eqE (lsM s R) h h1 → eqE (scrM s) h h1 := fun e => eqE_w (fun a j q => by
    rcases q with ⟨q, r⟩ | ⟨q, r⟩
    · subst q; exact sc_0 (by omega)
    · subst q; exact sc_11 (by omega)) e
  have mIn : ∀ Q : hp → Prop, w_X12_named hm (fun r3 h2 => w_X12_tellList_17 Q (nI R) r3 0 h2) → w_X12_tellList hm Q := fun Q hq => by
    unfold w_X12_tellList w_X12_tellList_0
    rw [b1, ixs, n2]
    exact ⟨ins, fun x1 ex => by subst ex; exact hq⟩
  rcases L_name S0 hR with ⟨hc1, hm1, ⟨F, P, cf, fm⟩, e1, e2, r1, r2⟩ | ⟨hk, hc1, hm1, W1, Q1, S1, hw1, nm, e1, e2, r1, r2⟩
  · left
    refine ⟨hc1, hm1, ⟨F, P, cf, fm⟩, cRd_s (s2_r e1), mRd_s (sM_r e2), fun Q hq => r1 _ ⟨fun _ => hq, fun q => absurd rfl q⟩, fun Q hq => mIn Q (r2 _ (fun X hX => hX _ ?_))⟩
    show w_X12_tellList_b17 Q (nI R) (nI t) X 0 hm1
    unfold w_X12_tellList_b17 w_X12_tellList_140
    exact ⟨fun _ => m_mustF fm ⟨fun q => absurd q (FM_ne fm).2.1, fun _ => hq⟩, fun q => absurd q (FM_ne fm).1⟩
  have S1' := S1
  obtain ⟨g1, ⟨_, gr1, _⟩, ⟨b1', b2', b3', b4', b5', b6', b7', b8'⟩, ⟨n1', n2', n3'⟩, ⟨o1', o2'⟩, ⟨p1', p2'⟩, v1⟩ := S1'
  have f1 : eqE (scrC d) hc hc1 := eqE_w (fun a j q => by unfold scrC; omega) e1
  rcases L_list (tn := t) a1 hR a3 (401 - (t + 1)) (t + 1) hc1 hm1 0 W1 Q1 rfl gr1 n1' b1' g1 (by omega) (fun _ => ⟨fun _ => 0, fun j hj => absurd hj (Nat.not_lt_zero j)⟩) with ⟨hc2, hm2, b, u1, u2, u3, u4⟩ | ⟨hc2, hm2, t2, W2, Q2, z, hk4, g2, z6, ht2, hw2, u1, u2, u3, u4⟩
  · exact Or.inl ⟨hc2, hm2, b, eqE_trans f1 (lsC_s u1), eqE_trans (mRd_s (sM_r e2)) (lsM_s u2), fun Q hq => r1 _ ⟨fun q => absurd q (by decide), fun _ X hX => u3 _ X hX ⟨fun _ => hq, fun q => absurd rfl q⟩⟩, fun Q hq => mIn Q (r2 _ (fun X hX => u4 Q X hX hq))⟩
  have gr2 : gR hc2 1 = d := by rw [u1.2]; exact gr1
  have c0 : gI hc2 d 0 = nI R := by rw [eqE_I u1 (by unfold lsC; omega)]; exact n1'
  let hcE := sI (sI hc2 (d + 1) R (nI z)) d 0 (nI (R + 1))
  have gE : GS T hcE hm2 t2 W2 Q2 := GS_f (agI_sI (ag_c (by unfold kGC; omega)) (by unfold kGC; omega)) (agI_r _) g2
  have rcE : ∀ Q : Int32 → hp → Prop, w_X5_take hcE 59 (fun r37 h36 => (r37 = 0 → (Q 0 h36)) ∧ (¬ (r37 = 0) → (Q 1 h36))) → wcLst hc Q := fun Q hq => r1 _ ⟨fun q => absurd q (by decide), fun _ X hX => u3 _ X hX (by
    unfold w_X5_readList_125
    rw [gr2]
    exact ⟨shO7 a1, c_endRow c0 hR ⟨fun q => absurd q (by decide), fun _ => hq⟩⟩)⟩
  have fcE : eqE (scrC d) hc hcE := eqE_sI (eqE_sI (eqE_trans f1 (lsC_s u1)) (by unfold scrC; omega)) (by unfold scrC; omega)
  have fm2 : eqE (scrM s) hm hm2 := eqE_trans (mRd_s (sM_r e2)) (lsM_s u2)
  have rmE : ∀ Q : hp → Prop, w_X12_tellList_140 Q (nI R) (nI t) (nI z) hm2 → w_X12_tellList hm Q := fun Q hq => mIn Q (r2 _ (fun X hX => u4 Q X hX hq))
  rcases L_take (x := 4) (cx := 59) (mx := 4) gE (by omega) (by omega) rfl rfl with ⟨hc3, hm3, y1, y2, _, g3, w1, w2⟩ | ⟨hc3, hm3, y1, y2, ⟨F, P, cf, fm⟩, w1, w2⟩
  · right
    have e13 := (GS_0 g3)
    have q19 : gI hm3 0 19 = nI s := by rw [eqE_I y2 (by unfold sM; omega), eqE_I u2 (by unfold lsM sM; omega)]; exact b1'
    have q20 : gI hm3 0 20 = nI R := by rw [eqE_I y2 (by unfold sM; omega), eqE_I u2 (by unfold lsM sM; omega)]; exact n3'
    have q9 : gI hm3 9 s = nI R := by rw [eqE_I y2 (by unfold sM; omega), eqE_I u2 (by unfold lsM sM; omega)]; exact n2'
    let hmN := sI hm3 10 (6 * s + R) (nI z)
    let hmZ := sI (sI (sL hmN 8 R (gL hmN 6 t)) 0 20 (nI (R + 1))) 9 s (nI (R + 1))
    have fZ : eqE (rwM s R) hm3 hmZ := eqE_sI (eqE_sI (eqE_sL (eqE_sI (eqE_refl _) (by unfold rwM; omega)) (by unfold rwM; omega)) (by unfold rwM; omega)) (by unfold rwM; omega)
    have gZ : GS T hc3 hmZ (t2 + 1) W2 Q2 := GS_f (agI_r _) (agI_e fZ (fun a j q z => by unfold kGM at q; unfold rwM at z; omega)) g3
    have fcA : eqE (fun a j => lsC d R a j ∨ (a = d + 1 ∧ j = R) ∨ (a = d ∧ j = 0)) hc1 hc3 := eqE_trans (eqE_sI (eqE_sI (eqE_w (fun a j q => Or.inl q) u1) (Or.inr (Or.inl ⟨rfl, rfl⟩))) (Or.inr (Or.inr ⟨rfl, rfl⟩))) (eqE_w (fun a j q => Or.inl (Or.inl q)) y1)
    have fmA : eqE (fun a j => lsM s R a j ∨ rwM s R a j) hm1 hmZ := eqE_trans (eqE_w (fun a j q => Or.inl q) u2) (eqE_trans (eqE_w (fun a j q => Or.inl (Or.inl q)) y2) (eqE_w (fun a j q => Or.inr q) fZ))
    have x2 : gI hc3 d 0 = nI (R + 1) := by rw [eqE_I y1 (by unfold s2; omega)]; exact gI_at _ _ _ _
    have x3 : gI hc3 (d + 1) R = nI z := by
      rw [eqE_I y1 (by unfold s2; omega)]; show gI (sI (sI hc2 (d + 1) R _) d 0 _) (d + 1) R = _
      rw [gI_o _ _ (by omega)]; exact gI_at _ _ _ _
    have m0 : ∀ j, ¬ sM 0 j → ¬ j = 20 → gI hmZ 0 j = gI hm1 0 j := fun j h1 h2 => by
      show gI (sI (sI (sL (sI hm3 10 _ _) 8 R _) 0 20 _) 9 s _) 0 j = _
      rw [gI_o _ _ (by decide), gI_k _ _ h2, gI_sL, gI_o _ _ (by decide), eqE_I y2 h1, eqE_I u2 (fun q => q.elim h1 (fun z => by omega))]
    have x10 : gI hmZ 10 (6 * s + R) = nI z := by
      show gI (sI (sI (sL (sI hm3 10 _ _) 8 R _) 0 20 _) 9 s _) 10 _ = _
      rw [gI_o _ _ (by decide), gI_o _ _ (by decide), gI_sL]; exact gI_at _ _ _ _
    have x20 : gI hmZ 0 20 = nI (R + 1) := by
      show gI (sI (sI (sL (sI hm3 10 _ _) 8 R _) 0 20 _) 9 s _) 0 20 = _
      rw [gI_o _ _ (by decide)]; exact gI_at _ _ _ _
    have SZ : TS T hc3 hmZ d s (t2 + 1) W2 Q2 (R + 1) NS K f B := by
      refine TS_w2 S1 gZ fcA.2 (m0 19 (by unfold sM; omega) (by decide)) (by rw [m0 12 (by unfold sM; omega) (by decide)]; exact b2') (by rw [m0 37 (by unfold sM; omega) (by decide)]; exact b3') (by rw [m0 43 (by unfold sM; omega) (by decide)]; exact b4') (Nat.le_refl _) (by omega) (Nat.le_refl _) (by omega) ⟨by omega, a5, a6⟩ ⟨x2, gI_at _ _ _ _, x20⟩ ⟨by rw [eqE_I fcA (by unfold lsC; omega)]; exact o1', by rw [eqE_I fmA (by unfold lsM sM rwM; omega)]; exact o2'⟩ ⟨by rw [eqE_I fcA (by unfold lsC; omega)]; exact p1', by rw [eqE_I fmA (by unfold lsM sM rwM; omega)]; exact p2'⟩ (fun w => ?_)
      obtain ⟨w10, Nn, hNn⟩ := hw2 w
      obtain ⟨⟨Sz, N, k1, ⟨k2, k3⟩, ⟨k4, k5⟩, k6⟩, v2', v3, v4, v5, v6, v7⟩ := v1 w10
      have ac : ∀ X : Nat → Nat → Prop, (∀ a j, X a j → ¬ (lsC d R a j ∨ (a = d + 1 ∧ j = R) ∨ (a = d ∧ j = 0))) → agI X hc1 hc3 := fun X q => agI_e fcA q
      have am : ∀ X : Nat → Nat → Prop, (∀ a j, X a j → ¬ (lsM s R a j ∨ rwM s R a j)) → agI X hm1 hmZ := fun X q => agI_e fmA q
      have nmZ : gL hc3 (d + 2) R = tbV T t := by rw [eqE_L fcA (by unfold lsC; omega)]; exact nm
      have nmM : gL hmZ 8 R = tbV T t := by
        show gL (sI (sI (sL (sI hm3 10 _ _) 8 R _) 0 20 _) 9 s _) 8 R = _
        rw [gL_sI, gL_sI, gL_at, gL_sI]
        exact (g3.1.2.2.1 t t4 tc).2.2.2 hk
      refine ⟨⟨fun r => if r = R then z else Sz r, fun r k => if r = R then Nn k else N r k, ⟨by omega, fun r hr => ?_⟩, ⟨x2, fun r hr => ?_⟩, ⟨gI_at _ _ _ _, fun r hr => ?_⟩, fun k hk' => ?_⟩, dShr_f a5 (ac _ (fun a j q => by unfold kShC at q; unfold lsC; omega)) (am _ (fun a j q => by unfold kShM at q; unfold lsM sM rwM; omega)) v2', dPri_f (ac _ (fun a j q => by unfold kPrC at q; unfold lsC; omega)) (am _ (fun a j q => by unfold kPrM at q; unfold lsM sM rwM; omega)) v3, dBag_f (ac _ (fun a j q => by unfold kBgC at q; unfold lsC; omega)) (am _ (fun a j q => by unfold kBgM at q; unfold lsM sM rwM; omega)) v4, dWld_f (ac _ (fun a j q => by unfold kWlC at q; unfold lsC; omega)) (am _ (fun a j q => by unfold kWlM at q; unfold lsM sM rwM; omega)) v5, dLia_f (ac _ (fun a j q => by unfold kLiC at q; unfold lsC; omega)) (am _ (fun a j q => by unfold kLiM at q; unfold lsM sM rwM; omega)) v6, dAsk_f (Nat.le_refl _) (Nat.le_refl _) (ac _ (fun a j q => by unfold kAsC at q; unfold lsC; omega)) (am _ (fun a j q => by unfold kAsM at q; unfold lsM sM rwM; omega)) v7⟩
      · show (if r = R then z else Sz r) ≤ 6 ∧ ∀ k, k < (if r = R then z else Sz r) → -99 ≤ (if r = R then Nn k else N r k).toInt ∧ (if r = R then Nn k else N r k).toInt ≤ 99
        by_cases c : r = R
        · rw [if_pos c]
          exact ⟨z6, fun k hk' => by rw [if_pos c]; exact (hNn k hk').2.2⟩
        · rw [if_neg c]
          exact ⟨(k1.2 r (by omega)).1, fun k hk' => by rw [if_neg c]; exact (k1.2 r (by omega)).2 k hk'⟩
      · show gI hc3 (d + 1) r = nI (if r = R then z else Sz r) ∧ ∀ k, k < (if r = R then z else Sz r) → gI hc3 (d + 3) (6 * r + k) = (if r = R then Nn k else N r k)
        by_cases c : r = R
        · subst c
          rw [if_pos rfl]
          refine ⟨x3, fun k hk' => ?_⟩
          rw [if_pos rfl, eqE_I y1 (by unfold s2; omega)]
          show gI (sI (sI hc2 (d + 1) r _) d 0 _) (d + 3) _ = _
          rw [gI_o _ _ (by omega), gI_o _ _ (by omega)]; exact (hNn k hk').1
        · rw [if_neg c, eqE_I fcA (by unfold lsC; omega)]
          refine ⟨(k3 r (by omega)).1, fun k hk' => ?_⟩
          have := (k1.2 r (by omega)).1
          rw [if_neg c, eqE_I fcA (by unfold lsC; omega)]
          exact (k3 r (by omega)).2 k hk'
      · show gI hmZ 10 (6 * s + r) = nI (if r = R then z else Sz r) ∧ ∀ k, k < (if r = R then z else Sz r) → gI hmZ 11 (36 * s + 6 * r + k) = (if r = R then Nn k else N r k)
        by_cases c : r = R
        · subst c
          rw [if_pos rfl]
          refine ⟨x10, fun k hk' => ?_⟩
          rw [if_pos rfl]
          show gI (sI (sI (sL (sI hm3 10 _ _) 8 r _) 0 20 _) 9 s _) 11 _ = _
          rw [gI_o _ _ (by decide), gI_o _ _ (by decide), gI_sL, gI_o _ _ (by decide), eqE_I y2 (by unfold sM; omega)]; exact (hNn k hk').2.1
        · rw [if_neg c, eqE_I fmA (by unfold lsM sM rwM; omega)]
          refine ⟨(k5 r (by omega)).1, fun k hk' => ?_⟩
          have := (k1.2 r (by omega)).1
          rw [if_neg c, eqE_I fmA (by unfold lsM sM rwM; omega)]
          exact (k5 r (by omega)).2 k hk'
      · by_cases c : k = R
        · subst c; rw [nmZ, nmM]
        · rw [eqE_L fcA (by unfold lsC; omega), eqE_L fmA (by unfold lsM sM rwM; omega)]
          exact k6 k (by omega)
    refine ⟨hc3, hmZ, t2 + 1, W2, Q2, R + 1, NS, K, f, B, SZ, by omega, eqE_trans fcE (cRd_s (s2_r y1)), eqE_trans fm2 (eqE_trans (mRd_s (sM_r y2)) (rwM_s hR fZ)), fun Q hq => rcE Q (w1 _ ⟨fun q => absurd q (by decide), fun _ => hq⟩), fun Q hq => rmE Q ?_⟩
    unfold w_X12_tellList_140
    refine w2 _ ⟨fun _ => ?_, fun q => absurd e13.2.1 q⟩
    rw [q19, e6, ix_n (n := 6 * s + R) (by omega)]
    refine ⟨in_n (by omega) (by omega), fun h29 e29 => ?_⟩
    subst e29
    exact m_notes a3 (by rw [gI_o _ _ (by decide)]; exact q19) hR (by rw [gI_o _ _ (by decide)]; exact q20) (by rw [gI_o _ _ (by decide)]; exact q9) (by omega) hq
  · left
    refine ⟨hc3, hm3, ⟨F, P, cf, fm⟩, eqE_trans fcE (cRd_s (s2_r y1)), eqE_trans fm2 (mRd_s (sM_r y2)), fun Q hq => rcE Q (w1 _ ⟨fun _ => hq, fun q => absurd rfl q⟩), fun Q hq => rmE Q ?_⟩
    unfold w_X12_tellList_140
    exact w2 _ ⟨fun q => absurd q (FM_ne fm).2.1, fun _ => hq⟩
/-! a tell -/
theorem TOut_pre {T : Tb} {hc hm hc1 hm1 : hp} {d s t t1 : Nat} {wc wcB : (Int32 → hp → Prop) → Prop} {wm wmB : (hp → Prop) → Prop} (ht : t ≤ t1) (ec : eqE (scrC d) hc hc1) (em : eqE (scrM s) hm hm1) (rc : ∀ Q, wcB Q → wc Q) (rm : ∀ Q, wmB Q → wm Q) (h : TOut T hc1 hm1 d s t1 wcB wmB) : TOut T hc hm d s t wc wm := by
  rcases h with ⟨hc2, hm2, b, e1, e2, r1, r2⟩ | ⟨hc2, hm2, t2, W2, Q2, R2, NS2, K2, f2, B2, S2, h2, e1, e2, r1, r2⟩
  · exact Or.inl ⟨hc2, hm2, b, eqE_trans ec e1, eqE_trans em e2, fun Q hq => rc Q (r1 Q hq), fun Q hq => rm Q (r2 Q hq)⟩
  · exact Or.inr ⟨hc2, hm2, t2, W2, Q2, R2, NS2, K2, f2, B2, S2, by omega, eqE_trans ec e1, eqE_trans em e2, fun Q hq => rc Q (r1 Q hq), fun Q hq => rm Q (r2 Q hq)⟩
def isFul (k R NS K : Nat) : Prop := ((k = 20 ∨ k = 21) ∧ ¬ R < 6) ∨ (k = 24 ∧ ¬ NS < 8) ∨ (k = 25 ∧ ¬ K < 9)
theorem c_full {T : Tb} {hc hm : hp} {d s t W : Nat} {Q0 : Int32} {R NS K f B k : Nat} {Q : Int32 → Prop} (S : TS T hc hm d s t W Q0 R NS K f B) (h1 : 20 ≤ k) (h2 : k ≤ 27) (q1 : isFul k R NS K → Q 1) (q0 : ¬ isFul k R NS K → Q 0) : w_X7_isFullOf d hc (cK k) Q := by
  obtain ⟨g0, ⟨a1, a2, a3, a4, a5, a6⟩, _, ⟨n1, n2, n3⟩, ⟨o1, o2⟩, ⟨p1, p2⟩, v⟩ := S
  have lR : nI R < 6 ↔ R < 6 := by rw [t_lt, n_toInt (by omega), show (6 : Int32).toInt = 6 from rfl]; omega
  have lN : nI NS < 8 ↔ NS < 8 := by rw [t_lt, n_toInt (by omega), show (8 : Int32).toInt = 8 from rfl]; omega
  have lK : nI K < 9 ↔ K < 9 := by rw [t_lt, n_toInt (by omega), show (9 : Int32).toInt = 9 from rfl]; omega
  unfold w_X7_isFullOf w_X7_isFullOf_0
  rw [n1, o1, p1, lR, lN, lK]
  unfold isFul at q1 q0
  have : k = 20 ∨ k = 21 ∨ k = 22 ∨ k = 23 ∨ k = 24 ∨ k = 25 ∨ k = 26 ∨ k = 27 := by omega
  rcases this with q | q | q | q | q | q | q | q <;> subst q <;> intro sw es <;> subst es
  · exact ⟨fun _ => ⟨fun c => q0 (fun z => by omega), fun c => q1 (by omega)⟩, fun q => absurd q (by decide), fun q => absurd q (by decide), fun q => absurd q (by decide), fun q => absurd q (by decide), fun q => absurd q (by decide), fun q => absurd q (by decide)⟩
  · exact ⟨fun q => absurd q (by decide), fun _ => ⟨fun c => q0 (fun z => by omega), fun c => q1 (by omega)⟩, fun q => absurd q (by decide), fun q => absurd q (by decide), fun q => absurd q (by decide), fun q => absurd q (by decide), fun q => absurd q (by decide)⟩
  · exact ⟨fun q => absurd q (by decide), fun q => absurd q (by decide), fun _ => q0 (fun z => by omega), fun q => absurd q (by decide), fun q => absurd q (by decide), fun q => absurd q (by decide), fun q => absurd q (by decide)⟩
  · exact ⟨fun q => absurd q (by decide), fun q => absurd q (by decide), fun q => absurd q (by decide), fun _ => q0 (fun z => by omega), fun q => absurd q (by decide), fun q => absurd q (by decide), fun q => absurd q (by decide)⟩
  · exact ⟨fun q => absurd q (by decide), fun q => absurd q (by decide), fun q => absurd q (by decide), fun q => absurd q (by decide), fun _ => ⟨fun c => q0 (fun z => by omega), fun c => q1 (by omega)⟩, fun q => absurd q (by decide), fun q => absurd q (by decide)⟩
  · exact ⟨fun q => absurd q (by decide), fun q => absurd q (by decide), fun q => absurd q (by decide), fun q => absurd q (by decide), fun q => absurd q (by decide), fun _ => ⟨fun c => q0 (fun z => by omega), fun c => q1 (by omega)⟩, fun q => absurd q (by decide)⟩
  · exact ⟨fun q => absurd q (by decide), fun q => absurd q (by decide), fun q => absurd q (by decide), fun q => absurd q (by decide), fun q => absurd q (by decide), fun q => absurd q (by decide), fun _ => q0 (fun z => by omega)⟩
  · exact ⟨fun q => absurd q (by decide), fun q => absurd q (by decide), fun q => absurd q (by decide), fun q => absurd q (by decide), fun q => absurd q (by decide), fun q => absurd q (by decide), fun _ => q0 (fun z => by omega)⟩
theorem m_room {T : Tb} {hm : hp} {t W n m : Nat} {Q0 : Int32} {Q : hp → Prop} (g : MH T hm t W Q0) (hn : n < 100) (hm' : m < 100) (q1 : n = m → Q (mSt T hm 2 t)) (q0 : ¬ n = m → w_X12_goesOn hm Q) : w_X12_roomFor hm (nI n) (nI m) Q := by
  have fm := FM_st (F := 2) g (by omega) (by omega)
  unfold w_X12_roomFor w_X12_roomFor_0 w_X12_roomFor_10
  rw [nI_eq (by omega) (by omega)]
  exact ⟨fun n0 => ⟨fun q => absurd g.2.2.1 q, fun _ => q0 n0⟩, fun e => failH (F := 2) g ⟨fun _ => q1 e, fun q => absurd q (FM_ne fm).1⟩⟩
theorem L_tell {T : Tb} {hc hm : hp} {d s t W : Nat} {Q0 : Int32} {R NS K f B : Nat} (S : TS T hc hm d s t W Q0 R NS K f B) : TOut T hc hm d s t (fun Q => w_X5_readTell hc Q) (fun Q => w_X12_tell hm Q) := by
  have S0 := S
  obtain ⟨g0, ⟨a1, a2, a3, a4, a5, a6⟩, ⟨b1, b2, b3, b4, b5, b6, b7, b8⟩, ⟨n1, n2, n3⟩, ⟨o1, o2⟩, ⟨p1, p2⟩, v⟩ := S
  have hd := O18 a1
  have gc := GS_c g0
  have gm := GS_m g0
  have t4 := g0.1.2.2.2.1
  have tc := g0.1.2.2.2.2.1
  have k36 := g0.1.1.2.1 t
  have ixs : ix (nI s) = s := ix_n (by omega)
  have ins : vp_in (nI s) 2 := in_n a3 (by omega)
  have e3 := (g0.1.2.2.1 t t4 tc).1
  have e11 : gI hm 0 11 = nI t := g0.2.2.1
  have in3 : vp_in (nI t) 403 := in_n (by omega) (by omega)
  have ck : ∀ k, k < 37 → ((cK k < 256 ↔ k < 20) ∧ (cK k ≤ 263 ↔ k ≤ 27)) := by decide +kernel
  have ck := ck (tbK T t) (by omega)
  by_cases kin : 20 ≤ tbK T t ∧ tbK T t ≤ 27
  · obtain ⟨k20, k27⟩ := kin
    by_cases full : isFul (tbK T t) R NS K
    · -- no room
      left
      have fm := FM_st (F := 2) gm (by omega) (by omega)
      refine ⟨cSt T hc 2 t, mSt T hm 2 t, ⟨2, _, CF_st, fm⟩, cRd_s (s2_r cSt_e), mRd_s (sM_r mSt_e), fun Q hq => ?_, fun Q hq => ?_⟩
      · unfold w_X5_readTell w_X5_readTell_0
        refine kindH gc ⟨fun c => absurd (ck.1.mp c) (by omega), fun _ => ⟨fun _ => ?_, fun c => absurd (ck.2.mpr k27) c⟩⟩
        rw [a2]
        exact ⟨shO7 a1, c_full S0 k20 k27 (fun _ => ⟨fun q => absurd q (by decide), fun _ => stopH (F := 2) gc ⟨isZ0, hq⟩⟩) (fun n => absurd full n)⟩
      · have nz : ¬ gI (mSt T hm 2 t) 0 13 = 0 := (FM_ne fm).1
        have nl : ¬ gI (mSt T hm 2 t) 0 13 ≤ 0 := (FM_ne fm).2.1
        unfold w_X12_tell w_X12_tell_0
        rw [e11, ix_n (n := t) (by omega), e3, b1, ixs, n2, o2, p2]
        refine ⟨in3, fun sw es => ?_⟩
        rcases full with ⟨q | q, z⟩ | ⟨q, z⟩ | ⟨q, z⟩
        · rw [q] at es
          subst es
          refine ⟨fun _ => ⟨ins, m_room gm (m := 6) (by omega) (by omega) (fun _ => ⟨fun _ => hq, fun q => absurd q nz⟩) (fun n => by omega)⟩, fun q => absurd q (by decide), fun q => absurd q (by decide), fun q => absurd q (by decide), fun q => absurd q (by decide), fun q => absurd q (by decide), fun q => absurd q (by decide), fun q => absurd q (by decide), fun q => absurd q (by decide)⟩
        · rw [q] at es
          subst es
          refine ⟨fun q => absurd q (by decide), fun _ => ⟨ins, m_room gm (m := 6) (by omega) (by omega) (fun _ => ⟨fun _ => hq, fun q => absurd q nz⟩) (fun n => by omega)⟩, fun q => absurd q (by decide), fun q => absurd q (by decide), fun q => absurd q (by decide), fun q => absurd q (by decide), fun q => absurd q (by decide), fun q => absurd q (by decide), fun q => absurd q (by decide)⟩
        · rw [q] at es
          subst es
          refine ⟨fun q => absurd q (by decide), fun q => absurd q (by decide), fun q => absurd q (by decide), fun q => absurd q (by decide), fun _ => ⟨ins, m_room gm (m := 8) (by omega) (by omega) (fun _ => ⟨fun _ => hq, fun q => absurd q nz⟩) (fun n => by omega)⟩, fun q => absurd q (by decide), fun q => absurd q (by decide), fun q => absurd q (by decide), fun q => absurd q (by decide)⟩
        · rw [q] at es
          subst es
          refine ⟨fun q => absurd q (by decide), fun q => absurd q (by decide), fun q => absurd q (by decide), fun q => absurd q (by decide), fun q => absurd q (by decide), fun _ => ⟨ins, m_room gm (m := 9) (by omega) (by omega) (fun _ => ⟨fun q => absurd q nl, fun _ => hq⟩) (fun n => by omega)⟩, fun q => absurd q (by decide), fun q => absurd q (by decide), fun q => absurd q (by decide)⟩
    · -- the class's road to the tell's body
      have cIn : ∀ Q : Int32 → hp → Prop, w_X5_take hc (cK (tbK T t)) (fun r10 h9 => (¬ r10 = 0 → (∀ sw12, sw12 = cK (tbK T t) → ((sw12 = 256 → (w_X5_takeName h9 (fun r15 h14 => (r15 = 0 → (Q 0 h14)) ∧ (¬ (r15 = 0) → (w_X5_take h14 3 (fun r18 h17 => (r18 = 0 → (Q 0 h17)) ∧ (¬ (r18 = 0) → (w_X5_noteSize h17 (fun r21 h20 => (r21 = 0 → (Q 0 h20)) ∧ (¬ (r21 = 0) → (w_X5_readLaw h20 (fun r24 h23 => (r24 = 0 → (Q 0 h23)) ∧ (¬ (r24 = 0) → (w_X5_tellRow h23 (fun r27 h26 => (r27 = 0 → (Q 0 h26)) ∧ (¬ (r27 = 0) → (Q 1 h26))))))))))))))))) ∧ (sw12 = 257 → (w_X5_takeName h9 (fun r31 h30 => (r31 = 0 → (Q 0 h30)) ∧ (¬ (r31 = 0) → (w_X5_readList h30 (fun r34 h33 => (r34 = 0 → (Q 0 h33)) ∧ (¬ (r34 = 0) → (w_X5_take h33 59 (fun r37 h36 => (r37 = 0 → (Q 0 h36)) ∧ (¬ (r37 = 0) → (Q 1 h36))))))))))) ∧ (sw12 = 258 → (w_X5_readLaw h9 (fun r41 h40 => (r41 = 0 → (Q 0 h40)) ∧ (¬ (r41 = 0) → (w_X5_tellAsk h40 (fun r44 h43 => (r44 = 0 → (Q 0 h43)) ∧ (¬ (r44 = 0) → (Q 1 h43)))))))) ∧ (sw12 = 259 → (w_X5_take h9 3 (fun r48 h47 => (r48 = 0 → (Q 0 h47)) ∧ (¬ (r48 = 0) → (w_X5_tellNumber h47 (cK (tbK T t)) (fun r51 h50 => (r51 = 0 → (Q 0 h50)) ∧ (¬ (r51 = 0) → (w_X5_take h50 59 (fun r54 h53 => (r54 = 0 → (Q 0 h53)) ∧ (¬ (r54 = 0) → (Q 1 h53))))))))))) ∧ (sw12 = 260 → (w_X5_take h9 3 (fun r58 h57 => (r58 = 0 → (Q 0 h57)) ∧ (¬ (r58 = 0) → (w_X5_take h57 3 (fun r61 h60 => (r61 = 0 → (Q 0 h60)) ∧ (¬ (r61 = 0) → (w_X5_tellShare h60 (fun r64 h63 => (r64 = 0 → (Q 0 h63)) ∧ (¬ (r64 = 0) → (w_X5_take h63 59 (fun r67 h66 => (r67 = 0 → (Q 0 h66)) ∧ (¬ (r67 = 0) → (Q 1 h66)))))))))))))) ∧ (sw12 = 261 → (w_X5_take h9 3 (fun r71 h70 => (r71 = 0 → (Q 0 h70)) ∧ (¬ (r71 = 0) → (w_X5_tellNumber h70 (cK (tbK T t)) (fun r74 h73 => (r74 = 0 → (Q 0 h73)) ∧ (¬ (r74 = 0) → (w_X5_take h73 59 (fun r77 h76 => (r77 = 0 → (Q 0 h76)) ∧ (¬ (r77 = 0) → (Q 1 h76))))))))))) ∧ (sw12 = 262 → (w_X5_take h9 3 (fun r81 h80 => (r81 = 0 → (Q 0 h80)) ∧ (¬ (r81 = 0) → (w_X5_take h80 3 (fun r84 h83 => (r84 = 0 → (Q 0 h83)) ∧ (¬ (r84 = 0) → (w_X5_tellBound h83 (fun r87 h86 => (r87 = 0 → (Q 0 h86)) ∧ (¬ (r87 = 0) → (w_X5_take h86 59 (fun r90 h89 => (r90 = 0 → (Q 0 h89)) ∧ (¬ (r90 = 0) → (Q 1 h89)))))))))))))) ∧ (sw12.toInt < 256 ∨ 262 < sw12.toInt → (w_X5_take h9 3 (fun r94 h93 => (r94 = 0 → (Q 0 h93)) ∧ (¬ (r94 = 0) → (w_X5_tellNumber h93 (cK (tbK T t)) (fun r97 h96 => (r97 = 0 → (Q 0 h96)) ∧ (¬ (r97 = 0) → (w_X5_take h96 59 (fun r100 h99 => (r100 = 0 → (Q 0 h99)) ∧ (¬ (r100 = 0) → (Q 1 h99)))))))))))))) ∧ (r10 = 0 → (Q 0 h9))) → w_X5_readTell hc Q := fun Q hq => by
        unfold w_X5_readTell w_X5_readTell_0
        refine kindH gc ⟨fun c => absurd (ck.1.mp c) (by omega), fun _ => ⟨fun _ => ?_, fun c => absurd (ck.2.mpr k27) c⟩⟩
        rw [a2]
        exact ⟨shO7 a1, c_full S0 k20 k27 (fun y => absurd y full) (fun _ => ⟨fun _ => hq, fun q => absurd rfl q⟩)⟩
      -- and the reference's
      have mIn : ∀ Q : hp → Prop, (∀ sw1, sw1 = nI (tbK T t) → ((sw1 = 20 → (vp_in (gI hm 0 19) 2 ∧ (w_X12_roomFor hm (gI hm 9 (ix (gI hm 0 19))) 6 (fun h3 => (¬ (gI h3 0 13) = 0 → (Q h3)) ∧ ((gI h3 0 13) = 0 → (w_X12_tellRow h3 (fun h5 => Q h5))))))) ∧ (sw1 = 21 → (vp_in (gI hm 0 19) 2 ∧ (w_X12_roomFor hm (gI hm 9 (ix (gI hm 0 19))) 6 (fun h7 => (¬ (gI h7 0 13) = 0 → (Q h7)) ∧ ((gI h7 0 13) = 0 → (w_X12_tellList h7 (fun h9 => Q h9))))))) ∧ (sw1 = 22 → (w_X12_goesOn hm (fun h11 => w_X12_tellLaw h11 0 (fun h12 => Q h12)))) ∧ (sw1 = 23 → (w_X12_goesOn hm (fun h14 => w_X12_tellPrime h14 (fun h15 => Q h15)))) ∧ (sw1 = 24 → (vp_in (gI hm 0 19) 2 ∧ (w_X12_roomFor hm (gI hm 13 (ix (gI hm 0 19))) 8 (fun h17 => (¬ (gI h17 0 13) = 0 → (Q h17)) ∧ ((gI h17 0 13) = 0 → (w_X12_tellShare h17 (fun h19 => Q h19))))))) ∧ (sw1 = 25 → (vp_in (gI hm 0 19) 2 ∧ (w_X12_roomFor hm (gI hm 17 (ix (gI hm 0 19))) 9 (fun h21 => ((gI h21 0 13) ≤ 0 → (vp_in (gI h21 0 19) 2 ∧ (w_X12_bounded h21 0 999 (fun r24 h23 => vp_in ((9 * (gI h21 0 19)) + (gI h21 17 (ix (gI h21 0 19)))) 18 ∧ ∀ h25, h25 = sI h23 18 (ix ((9 * (gI h21 0 19)) + (gI h21 17 (ix (gI h21 0 19))))) r24 → (w_X12_must h25 4 (fun h26 => vp_in (gI h26 0 19) 2 ∧ (vp_in (gI h26 0 19) 2 ∧ ∀ h27, h27 = sI h26 17 (ix (gI h26 0 19)) ((gI h26 17 (ix (gI h26 0 19))) + 1) → (Q h27)))))))) ∧ (¬ ((gI h21 0 13) ≤ 0) → (Q h21)))))) ∧ (sw1 = 26 → (w_X12_goesOn hm (fun h29 => w_X12_bounded h29 1 4 (fun r31 h30 => vp_in (gI h29 0 19) 2 ∧ ∀ h32, h32 = sI h30 19 (ix (gI h29 0 19)) r31 → (w_X12_bounded h32 1 9 (fun r34 h33 => vp_in (gI h32 0 19) 2 ∧ ∀ h35, h35 = sI h33 20 (ix (gI h32 0 19)) r34 → (w_X12_must h35 4 (fun h36 => Q h36)))))))) ∧ (sw1 = 27 → (w_X12_goesOn hm (fun h38 => w_X12_bounded h38 0 9 (fun r40 h39 => vp_in (gI h38 0 19) 2 ∧ ∀ h41, h41 = sI h39 21 (ix (gI h38 0 19)) r40 → (w_X12_must h41 4 (fun h42 => Q h42)))))) ∧ (sw1.toInt < 20 ∨ 27 < sw1.toInt → (w_X12_fail hm 1 (fun h44 => Q h44))))) → w_X12_tell hm Q := fun Q hq => by
        unfold w_X12_tell w_X12_tell_0
        rw [e11, ix_n (n := t) (by omega), e3]
        exact ⟨in3, hq⟩
      rcases L_next g0 (by omega) with ⟨hc1, hm1, e1, e2, g1, r1, r2⟩ | ⟨hc1, hm1, e1, e2, ⟨F, P, cf, fm⟩, r1, r2⟩
      · have S1 := TS_f S0 g1 (by omega) (fun w => w) (s2_r e1) (sM_r e2)
        have kw : 4 * f ≤ 4 * (130 * s) + (t + 1) := by omega
        have z1 := GS_0 g1
        have m19 : gI hm1 0 19 = nI s := S1.2.2.1.1
        have m17 : gI hm1 17 s = nI K := by rw [eqE_I e2 (by unfold sM; omega)]; exact p2
        have ec := cRd_s (d := d) (s2_r e1)
        have em := mRd_s (s := s) (sM_r e2)
        have cs : tbK T t = 20 ∨ tbK T t = 21 ∨ tbK T t = 22 ∨ tbK T t = 23 ∨ tbK T t = 24 ∨ tbK T t = 25 ∨ tbK T t = 26 ∨ tbK T t = 27 := by omega
        have cGo : ∀ Q : Int32 → hp → Prop, (∀ sw12, sw12 = cK (tbK T t) → ((sw12 = 256 → (w_X5_takeName hc1 (fun r15 h14 => (r15 = 0 → (Q 0 h14)) ∧ (¬ (r15 = 0) → (w_X5_take h14 3 (fun r18 h17 => (r18 = 0 → (Q 0 h17)) ∧ (¬ (r18 = 0) → (w_X5_noteSize h17 (fun r21 h20 => (r21 = 0 → (Q 0 h20)) ∧ (¬ (r21 = 0) → (w_X5_readLaw h20 (fun r24 h23 => (r24 = 0 → (Q 0 h23)) ∧ (¬ (r24 = 0) → (w_X5_tellRow h23 (fun r27 h26 => (r27 = 0 → (Q 0 h26)) ∧ (¬ (r27 = 0) → (Q 1 h26))))))))))))))))) ∧ (sw12 = 257 → (w_X5_takeName hc1 (fun r31 h30 => (r31 = 0 → (Q 0 h30)) ∧ (¬ (r31 = 0) → (w_X5_readList h30 (fun r34 h33 => (r34 = 0 → (Q 0 h33)) ∧ (¬ (r34 = 0) → (w_X5_take h33 59 (fun r37 h36 => (r37 = 0 → (Q 0 h36)) ∧ (¬ (r37 = 0) → (Q 1 h36))))))))))) ∧ (sw12 = 258 → (w_X5_readLaw hc1 (fun r41 h40 => (r41 = 0 → (Q 0 h40)) ∧ (¬ (r41 = 0) → (w_X5_tellAsk h40 (fun r44 h43 => (r44 = 0 → (Q 0 h43)) ∧ (¬ (r44 = 0) → (Q 1 h43)))))))) ∧ (sw12 = 259 → (w_X5_take hc1 3 (fun r48 h47 => (r48 = 0 → (Q 0 h47)) ∧ (¬ (r48 = 0) → (w_X5_tellNumber h47 (cK (tbK T t)) (fun r51 h50 => (r51 = 0 → (Q 0 h50)) ∧ (¬ (r51 = 0) → (w_X5_take h50 59 (fun r54 h53 => (r54 = 0 → (Q 0 h53)) ∧ (¬ (r54 = 0) → (Q 1 h53))))))))))) ∧ (sw12 = 260 → (w_X5_take hc1 3 (fun r58 h57 => (r58 = 0 → (Q 0 h57)) ∧ (¬ (r58 = 0) → (w_X5_take h57 3 (fun r61 h60 => (r61 = 0 → (Q 0 h60)) ∧ (¬ (r61 = 0) → (w_X5_tellShare h60 (fun r64 h63 => (r64 = 0 → (Q 0 h63)) ∧ (¬ (r64 = 0) → (w_X5_take h63 59 (fun r67 h66 => (r67 = 0 → (Q 0 h66)) ∧ (¬ (r67 = 0) → (Q 1 h66)))))))))))))) ∧ (sw12 = 261 → (w_X5_take hc1 3 (fun r71 h70 => (r71 = 0 → (Q 0 h70)) ∧ (¬ (r71 = 0) → (w_X5_tellNumber h70 (cK (tbK T t)) (fun r74 h73 => (r74 = 0 → (Q 0 h73)) ∧ (¬ (r74 = 0) → (w_X5_take h73 59 (fun r77 h76 => (r77 = 0 → (Q 0 h76)) ∧ (¬ (r77 = 0) → (Q 1 h76))))))))))) ∧ (sw12 = 262 → (w_X5_take hc1 3 (fun r81 h80 => (r81 = 0 → (Q 0 h80)) ∧ (¬ (r81 = 0) → (w_X5_take h80 3 (fun r84 h83 => (r84 = 0 → (Q 0 h83)) ∧ (¬ (r84 = 0) → (w_X5_tellBound h83 (fun r87 h86 => (r87 = 0 → (Q 0 h86)) ∧ (¬ (r87 = 0) → (w_X5_take h86 59 (fun r90 h89 => (r90 = 0 → (Q 0 h89)) ∧ (¬ (r90 = 0) → (Q 1 h89)))))))))))))) ∧ (sw12.toInt < 256 ∨ 262 < sw12.toInt → (w_X5_take hc1 3 (fun r94 h93 => (r94 = 0 → (Q 0 h93)) ∧ (¬ (r94 = 0) → (w_X5_tellNumber h93 (cK (tbK T t)) (fun r97 h96 => (r97 = 0 → (Q 0 h96)) ∧ (¬ (r97 = 0) → (w_X5_take h96 59 (fun r100 h99 => (r100 = 0 → (Q 0 h99)) ∧ (¬ (r100 = 0) → (Q 1 h99))))))))))))) → w_X5_readTell hc Q := fun Q hq => cIn Q (r1 _ ⟨fun _ => hq, fun q => absurd q (by decide)⟩)
        unfold isFul at full
        rcases cs with q | q | q | q | q | q | q | q <;> rw [q] at full cGo mIn
        · refine TOut_pre (by omega) ec em (fun Q hq => cGo Q (fun sw es => ?_)) (fun Q hq => mIn Q (fun sw es => ?_)) (T_row S1 (by omega))
          · subst es
            exact ⟨fun _ => hq, fun q => absurd q (by decide), fun q => absurd q (by decide), fun q => absurd q (by decide), fun q => absurd q (by decide), fun q => absurd q (by decide), fun q => absurd q (by decide), fun q => absurd q (by decide)⟩
          · subst es
            rw [b1, ixs, n2, o2, p2]
            exact ⟨fun _ => ⟨ins, m_room gm (m := 6) (by omega) (by omega) (fun e => by omega) (fun _ => r2 _ ⟨fun q => absurd z1.1 q, fun _ => hq⟩)⟩, fun q => absurd q (by decide), fun q => absurd q (by decide), fun q => absurd q (by decide), fun q => absurd q (by decide), fun q => absurd q (by decide), fun q => absurd q (by decide), fun q => absurd q (by decide), fun q => absurd q (by decide)⟩
        · refine TOut_pre (by omega) ec em (fun Q hq => cGo Q (fun sw es => ?_)) (fun Q hq => mIn Q (fun sw es => ?_)) (T_lst S1 (by omega))
          · subst es
            exact ⟨fun q => absurd q (by decide), fun _ => hq, fun q => absurd q (by decide), fun q => absurd q (by decide), fun q => absurd q (by decide), fun q => absurd q (by decide), fun q => absurd q (by decide), fun q => absurd q (by decide)⟩
          · subst es
            rw [b1, ixs, n2, o2, p2]
            exact ⟨fun q => absurd q (by decide), fun _ => ⟨ins, m_room gm (m := 6) (by omega) (by omega) (fun e => by omega) (fun _ => r2 _ ⟨fun q => absurd z1.1 q, fun _ => hq⟩)⟩, fun q => absurd q (by decide), fun q => absurd q (by decide), fun q => absurd q (by decide), fun q => absurd q (by decide), fun q => absurd q (by decide), fun q => absurd q (by decide), fun q => absurd q (by decide)⟩
        · refine TOut_pre (by omega) ec em (fun Q hq => cGo Q (fun sw es => ?_)) (fun Q hq => mIn Q (fun sw es => ?_)) (T_ask S1 kw)
          · subst es
            exact ⟨fun q => absurd q (by decide), fun q => absurd q (by decide), fun _ => hq, fun q => absurd q (by decide), fun q => absurd q (by decide), fun q => absurd q (by decide), fun q => absurd q (by decide), fun q => absurd q (by decide)⟩
          · subst es
            skip
            exact ⟨fun q => absurd q (by decide), fun q => absurd q (by decide), fun _ => r2 _ hq, fun q => absurd q (by decide), fun q => absurd q (by decide), fun q => absurd q (by decide), fun q => absurd q (by decide), fun q => absurd q (by decide), fun q => absurd q (by decide)⟩
        · refine TOut_pre (by omega) ec em (fun Q hq => cGo Q (fun sw es => ?_)) (fun Q hq => mIn Q (fun sw es => ?_)) (T_pri S1)
          · subst es
            exact ⟨fun q => absurd q (by decide), fun q => absurd q (by decide), fun q => absurd q (by decide), fun _ => hq, fun q => absurd q (by decide), fun q => absurd q (by decide), fun q => absurd q (by decide), fun q => absurd q (by decide)⟩
          · subst es
            skip
            exact ⟨fun q => absurd q (by decide), fun q => absurd q (by decide), fun q => absurd q (by decide), fun _ => r2 _ hq, fun q => absurd q (by decide), fun q => absurd q (by decide), fun q => absurd q (by decide), fun q => absurd q (by decide), fun q => absurd q (by decide)⟩
        · refine TOut_pre (by omega) ec em (fun Q hq => cGo Q (fun sw es => ?_)) (fun Q hq => mIn Q (fun sw es => ?_)) (T_shr S1 (by omega))
          · subst es
            exact ⟨fun q => absurd q (by decide), fun q => absurd q (by decide), fun q => absurd q (by decide), fun q => absurd q (by decide), fun _ => hq, fun q => absurd q (by decide), fun q => absurd q (by decide), fun q => absurd q (by decide)⟩
          · subst es
            rw [b1, ixs, n2, o2, p2]
            exact ⟨fun q => absurd q (by decide), fun q => absurd q (by decide), fun q => absurd q (by decide), fun q => absurd q (by decide), fun _ => ⟨ins, m_room gm (m := 8) (by omega) (by omega) (fun e => by omega) (fun _ => r2 _ ⟨fun q => absurd z1.1 q, fun _ => hq⟩)⟩, fun q => absurd q (by decide), fun q => absurd q (by decide), fun q => absurd q (by decide), fun q => absurd q (by decide)⟩
        · refine TOut_pre (by omega) ec em (fun Q hq => cGo Q (fun sw es => ?_)) (fun Q hq => mIn Q (fun sw es => ?_)) (T_bag S1 (by omega))
          · subst es
            exact ⟨fun q => absurd q (by decide), fun q => absurd q (by decide), fun q => absurd q (by decide), fun q => absurd q (by decide), fun q => absurd q (by decide), fun _ => hq, fun q => absurd q (by decide), fun q => absurd q (by decide)⟩
          · subst es
            rw [b1, ixs, n2, o2, p2]
            exact ⟨fun q => absurd q (by decide), fun q => absurd q (by decide), fun q => absurd q (by decide), fun q => absurd q (by decide), fun q => absurd q (by decide), fun _ => ⟨ins, m_room gm (m := 9) (by omega) (by omega) (fun e => by omega) (fun _ => r2 _ ⟨fun _ => ⟨by rw [m19]; exact ins, hq⟩, fun q => absurd z1.2.1 q⟩)⟩, fun q => absurd q (by decide), fun q => absurd q (by decide), fun q => absurd q (by decide)⟩
        · refine TOut_pre (by omega) ec em (fun Q hq => cGo Q (fun sw es => ?_)) (fun Q hq => mIn Q (fun sw es => ?_)) (T_wld S1)
          · subst es
            exact ⟨fun q => absurd q (by decide), fun q => absurd q (by decide), fun q => absurd q (by decide), fun q => absurd q (by decide), fun q => absurd q (by decide), fun q => absurd q (by decide), fun _ => hq, fun q => absurd q (by decide)⟩
          · subst es
            skip
            exact ⟨fun q => absurd q (by decide), fun q => absurd q (by decide), fun q => absurd q (by decide), fun q => absurd q (by decide), fun q => absurd q (by decide), fun q => absurd q (by decide), fun _ => r2 _ hq, fun q => absurd q (by decide), fun q => absurd q (by decide)⟩
        · refine TOut_pre (by omega) ec em (fun Q hq => cGo Q (fun sw es => ?_)) (fun Q hq => mIn Q (fun sw es => ?_)) (T_lia S1)
          · subst es
            exact ⟨fun q => absurd q (by decide), fun q => absurd q (by decide), fun q => absurd q (by decide), fun q => absurd q (by decide), fun q => absurd q (by decide), fun q => absurd q (by decide), fun q => absurd q (by decide), fun _ => hq⟩
          · subst es
            skip
            exact ⟨fun q => absurd q (by decide), fun q => absurd q (by decide), fun q => absurd q (by decide), fun q => absurd q (by decide), fun q => absurd q (by decide), fun q => absurd q (by decide), fun q => absurd q (by decide), fun _ => r2 _ hq, fun q => absurd q (by decide)⟩
      · left
        have nz : ¬ gI hm1 0 13 = 0 := (FM_ne fm).1
        have nl : ¬ gI hm1 0 13 ≤ 0 := (FM_ne fm).2.1
        have m19 : gI hm1 0 19 = nI s := by rw [eqE_I e2 (by unfold sM; omega)]; exact b1
        have m37 : gI hm1 0 37 = nI f := by rw [eqE_I e2 (by unfold sM; omega)]; exact b3
        have ec := cRd_s (d := d) (s2_r e1)
        have em := mRd_s (s := s) (sM_r e2)
        have cs : tbK T t = 20 ∨ tbK T t = 21 ∨ tbK T t = 22 ∨ tbK T t = 23 ∨ tbK T t = 24 ∨ tbK T t = 25 ∨ tbK T t = 26 ∨ tbK T t = 27 := by omega
        have cB : ∀ Q : Int32 → hp → Prop, Q 0 hc1 → w_X5_readTell hc Q := fun Q hq => cIn Q (r1 _ ⟨fun q => absurd rfl q, fun _ => hq⟩)
        unfold isFul at full
        rcases cs with q | q | q | q | q | q | q | q <;> rw [q] at full mIn
        · refine ⟨hc1, hm1, ⟨F, P, cf, fm⟩, ec, em, cB, fun Q hq => mIn Q (fun sw es => ?_)⟩
          subst es
          rw [b1, ixs, n2, o2, p2]
          exact ⟨fun _ => ⟨ins, m_room gm (m := 6) (by omega) (by omega) (fun e => by omega) (fun _ => r2 _ ⟨fun _ => hq, fun q => absurd q nz⟩)⟩, fun q => absurd q (by decide), fun q => absurd q (by decide), fun q => absurd q (by decide), fun q => absurd q (by decide), fun q => absurd q (by decide), fun q => absurd q (by decide), fun q => absurd q (by decide), fun q => absurd q (by decide)⟩
        · refine ⟨hc1, hm1, ⟨F, P, cf, fm⟩, ec, em, cB, fun Q hq => mIn Q (fun sw es => ?_)⟩
          subst es
          rw [b1, ixs, n2, o2, p2]
          exact ⟨fun q => absurd q (by decide), fun _ => ⟨ins, m_room gm (m := 6) (by omega) (by omega) (fun e => by omega) (fun _ => r2 _ ⟨fun _ => hq, fun q => absurd q nz⟩)⟩, fun q => absurd q (by decide), fun q => absurd q (by decide), fun q => absurd q (by decide), fun q => absurd q (by decide), fun q => absurd q (by decide), fun q => absurd q (by decide), fun q => absurd q (by decide)⟩
        · obtain ⟨h3, y1, y2, y3⟩ := m_tellLawF (x := 0) (f := f) (F1 := 130 * s + 130) (B := B) (B1 := 420 * s + 420) fm m37 (Nat.le_refl _) (by omega) (by omega)
          refine ⟨hc1, h3, ⟨F, P, cf, y1⟩, ec, eqE_trans em (lM_s b5 b7 y2), cB, fun Q hq => mIn Q (fun sw es => ?_)⟩
          subst es
          exact ⟨fun q => absurd q (by decide), fun q => absurd q (by decide), fun _ => r2 _ (y3 Q hq), fun q => absurd q (by decide), fun q => absurd q (by decide), fun q => absurd q (by decide), fun q => absurd q (by decide), fun q => absurd q (by decide), fun q => absurd q (by decide)⟩
        · refine ⟨hc1, hm1, ⟨F, P, cf, fm⟩, ec, em, cB, fun Q hq => mIn Q (fun sw es => ?_)⟩
          subst es
          skip
          exact ⟨fun q => absurd q (by decide), fun q => absurd q (by decide), fun q => absurd q (by decide), fun _ => r2 _ (fun x1 _ => m_boundedF fm (m_mustF fm ⟨fun q => absurd q nl, fun _ => hq⟩)), fun q => absurd q (by decide), fun q => absurd q (by decide), fun q => absurd q (by decide), fun q => absurd q (by decide), fun q => absurd q (by decide)⟩
        · refine ⟨hc1, hm1, ⟨F, P, cf, fm⟩, ec, em, cB, fun Q hq => mIn Q (fun sw es => ?_)⟩
          subst es
          rw [b1, ixs, n2, o2, p2]
          exact ⟨fun q => absurd q (by decide), fun q => absurd q (by decide), fun q => absurd q (by decide), fun q => absurd q (by decide), fun _ => ⟨ins, m_room gm (m := 8) (by omega) (by omega) (fun e => by omega) (fun _ => r2 _ ⟨fun _ => hq, fun q => absurd q nz⟩)⟩, fun q => absurd q (by decide), fun q => absurd q (by decide), fun q => absurd q (by decide), fun q => absurd q (by decide)⟩
        · refine ⟨hc1, hm1, ⟨F, P, cf, fm⟩, ec, em, cB, fun Q hq => mIn Q (fun sw es => ?_)⟩
          subst es
          rw [b1, ixs, n2, o2, p2]
          exact ⟨fun q => absurd q (by decide), fun q => absurd q (by decide), fun q => absurd q (by decide), fun q => absurd q (by decide), fun q => absurd q (by decide), fun _ => ⟨ins, m_room gm (m := 9) (by omega) (by omega) (fun e => by omega) (fun _ => r2 _ ⟨fun q => absurd q nl, fun _ => hq⟩)⟩, fun q => absurd q (by decide), fun q => absurd q (by decide), fun q => absurd q (by decide)⟩
        · have fm1 : FM (sI hm1 19 s 1) F P := FM_f (ag_c (by unfold kFM; omega)) fm
          have fm2 : FM (sI (sI hm1 19 s 1) 20 s 1) F P := FM_f (ag_c (by unfold kFM; omega)) fm1
          have m19' : gI (sI hm1 19 s 1) 0 19 = nI s := by rw [gI_o _ _ (by decide)]; exact m19
          refine ⟨hc1, _, ⟨F, P, cf, fm2⟩, ec, eqE_sI (eqE_sI em (sc_s (by omega))) (sc_s (by omega)), cB, fun Q hq => mIn Q (fun sw es => ?_)⟩
          subst es
          exact ⟨fun q => absurd q (by decide), fun q => absurd q (by decide), fun q => absurd q (by decide), fun q => absurd q (by decide), fun q => absurd q (by decide), fun q => absurd q (by decide), fun _ => r2 _ (m_boundedF fm ⟨by rw [m19]; exact ins, fun h32 e32 => by rw [m19, ixs] at e32; subst e32; exact m_boundedF fm1 ⟨by rw [m19']; exact ins, fun h35 e35 => by rw [m19', ixs] at e35; subst e35; exact m_mustF fm2 hq⟩⟩), fun q => absurd q (by decide), fun q => absurd q (by decide)⟩
        · have fm1 : FM (sI hm1 21 s 0) F P := FM_f (ag_c (by unfold kFM; omega)) fm
          refine ⟨hc1, _, ⟨F, P, cf, fm1⟩, ec, eqE_sI em (sc_s (by omega)), cB, fun Q hq => mIn Q (fun sw es => ?_)⟩
          subst es
          exact ⟨fun q => absurd q (by decide), fun q => absurd q (by decide), fun q => absurd q (by decide), fun q => absurd q (by decide), fun q => absurd q (by decide), fun q => absurd q (by decide), fun q => absurd q (by decide), fun _ => r2 _ (m_boundedF fm ⟨by rw [m19]; exact ins, fun h41 e41 => by rw [m19, ixs] at e41; subst e41; exact m_mustF fm1 hq⟩), fun q => absurd q (by decide)⟩
  · left
    have fm := FM_st (F := 1) gm (by omega) (by omega)
    refine ⟨cSt T hc 1 t, mSt T hm 1 t, ⟨1, _, CF_st, fm⟩, cRd_s (s2_r cSt_e), mRd_s (sM_r mSt_e), fun Q hq => ?_, fun Q hq => ?_⟩
    · unfold w_X5_readTell w_X5_readTell_0 w_X5_readTell_19
      exact kindH gc ⟨fun _ => stopH (F := 1) gc ⟨isZ0, hq⟩, fun c => ⟨fun c2 => absurd ⟨Nat.le_of_not_lt (fun q => c (ck.1.mpr q)), ck.2.mp c2⟩ kin, fun _ => stopH (F := 1) gc ⟨isZ0, hq⟩⟩⟩
    · unfold w_X12_tell w_X12_tell_0
      rw [e11, ix_n (n := t) (by omega), e3]
      refine ⟨in3, fun sw es => ?_⟩
      subst es
      have ne : ∀ m, 20 ≤ m → m ≤ 27 → ¬ nI (tbK T t) = nI m := fun m h1 h2 e => kin (by rw [(nI_eq (by omega) (by omega)).mp e]; exact ⟨h1, h2⟩)
      exact ⟨fun c => absurd c (ne 20 (by omega) (by omega)), fun c => absurd c (ne 21 (by omega) (by omega)), fun c => absurd c (ne 22 (by omega) (by omega)), fun c => absurd c (ne 23 (by omega) (by omega)), fun c => absurd c (ne 24 (by omega) (by omega)), fun c => absurd c (ne 25 (by omega) (by omega)), fun c => absurd c (ne 26 (by omega) (by omega)), fun c => absurd c (ne 27 (by omega) (by omega)), fun _ => failH (F := 1) gm hq⟩
/-! one end, of runs with more than one way out -/
def DG {ε : Type} (P : (ε → Prop) → Prop) : Prop := ∀ E, P E → ∃ i, E i ∧ ∀ E' : ε → Prop, E' i → P E'
theorem DG_e {ε : Type} (i : ε) : DG (fun E => E i) := fun E H => ⟨i, H, fun _ H' => H'⟩
theorem DG_if {ε : Type} {c : Prop} {A B : (ε → Prop) → Prop} (a : DG A) (b : DG B) : DG (fun E => (c → A E) ∧ (¬ c → B E)) := fun E H => by
  by_cases z : c
  · obtain ⟨i, q, k⟩ := a E (H.1 z)
    exact ⟨i, q, fun E' H' => ⟨fun _ => k E' H', fun n => absurd z n⟩⟩
  · obtain ⟨i, q, k⟩ := b E (H.2 z)
    exact ⟨i, q, fun E' H' => ⟨fun n => absurd n z, fun _ => k E' H'⟩⟩
theorem DG_fi {ε : Type} {c : Prop} {A B : (ε → Prop) → Prop} (b : DG B) (a : DG A) : DG (fun E => (¬ c → B E) ∧ (c → A E)) := fun E H => by
  by_cases z : c
  · obtain ⟨i, q, k⟩ := a E (H.2 z)
    exact ⟨i, q, fun E' H' => ⟨fun n => absurd z n, fun _ => k E' H'⟩⟩
  · obtain ⟨i, q, k⟩ := b E (H.1 z)
    exact ⟨i, q, fun E' H' => ⟨fun _ => k E' H', fun n => absurd n z⟩⟩
theorem DG_and {ε : Type} {p : Prop} {A : (ε → Prop) → Prop} (a : DG A) : DG (fun E => p ∧ A E) := fun E H => by
  obtain ⟨i, q, k⟩ := a E H.2
  exact ⟨i, q, fun E' H' => ⟨H.1, k E' H'⟩⟩
theorem DG_let {ε τ : Type} {e : τ} {A : τ → (ε → Prop) → Prop} (a : ∀ x, DG (A x)) : DG (fun E => ∀ x, x = e → A x E) := fun E H => by
  obtain ⟨i, q, k⟩ := a e E (H e rfl)
  exact ⟨i, q, fun E' H' x ex => by subst ex; exact k E' H'⟩
theorem DG_call {ε ρ : Type} {w : (ρ → Prop) → Prop} {A : ρ → (ε → Prop) → Prop} (dw : DG w) (a : ∀ r, DG (A r)) : DG (fun E => w (fun r => A r E)) := fun E H => by
  obtain ⟨r0, H0, k0⟩ := dw _ H
  obtain ⟨i, q, k⟩ := a r0 E H0
  exact ⟨i, q, fun E' H' => k0 _ (k E' H')⟩
theorem DG_call2 {ε ρ τ : Type} {w : (ρ → τ → Prop) → Prop} {A : ρ → τ → (ε → Prop) → Prop} (dw : DG (fun E : ρ × τ → Prop => w (fun r h => E (r, h)))) (a : ∀ r h, DG (A r h)) : DG (fun E => w (fun r h => A r h E)) := fun E H => by
  obtain ⟨⟨r0, h0⟩, H0, k0⟩ := dw (fun z => A z.1 z.2 E) H
  obtain ⟨i, q, k⟩ := a r0 h0 E H0
  exact ⟨i, q, fun E' H' => k0 (fun z => A z.1 z.2 E') (k E' H')⟩
theorem DG_loop {ε σ : Type} {F : (ε → Prop) → (σ → Prop) → σ → Prop} (d : ∀ s, DG (fun E : ε ⊕ σ → Prop => F (fun i => E (Sum.inl i)) (fun q => E (Sum.inr q)) s)) (s : σ) : DG (fun E => wLoop (F E) s) := fun E H => by
  refine H (fun s => ∃ i, E i ∧ ∀ E' : ε → Prop, E' i → wLoop (F E') s) (fun t Ht => ?_)
  obtain ⟨i, q, k⟩ := d t (fun z => match z with
    | Sum.inl i => E i
    | Sum.inr s => ∃ i, E i ∧ ∀ E' : ε → Prop, E' i → wLoop (F E') s) Ht
  cases i with
  | inl i => exact ⟨i, q, fun E' H' X hX => hX t (k (fun z => match z with
    | Sum.inl i => E' i
    | Sum.inr s => X s) H')⟩
  | inr t' =>
    obtain ⟨i, q1, k1⟩ := q
    exact ⟨i, q1, fun E' H' X hX => hX t (k (fun z => match z with
      | Sum.inl i => E' i
      | Sum.inr s => X s) (k1 E' H' X hX))⟩
theorem DG_byteAt (h : hp) (x : Int32) : DG (w_X12_byteAt h x) := by
  unfold w_X12_byteAt w_X12_byteAt_0
  exact DG_if (DG_e _) (DG_and (DG_e _))
theorem DG_isLetter (x : Int32) : DG (w_X12_isLetter x) := by
  unfold w_X12_isLetter w_X12_isLetter_0
  exact DG_if (DG_e _) (DG_if (DG_e _) (DG_e _))
theorem DG_isDigit (x : Int32) : DG (w_X12_isDigit x) := by
  unfold w_X12_isDigit w_X12_isDigit_0
  exact DG_if (DG_e _) (DG_if (DG_e _) (DG_e _))
theorem DG_appends (x : Int64) (y : Int32) : DG (w_X12_appends x y) := by
  unfold w_X12_appends w_X12_appends_0
  exact DG_fi (DG_e _) (DG_e _)
theorem DG_token (h : hp) (a b c : Int32) (d : Int64) : DG (w_X12_token h a b c d) := by
  unfold w_X12_token w_X12_token_0
  exact DG_and (DG_let (fun _ => DG_and (DG_let (fun _ => DG_and (DG_let (fun _ => DG_and (DG_let (fun _ => DG_let (fun _ => DG_e _)))))))))
theorem DG_sign (h : hp) (a b c : Int32) : DG (fun E : Int32 × hp → Prop => w_X12_sign h a b c (fun r h => E (r, h))) := by
  have d95 : ∀ x, DG (fun E : Int32 × hp → Prop => w_X12_sign_95 (fun r h => E (r, h)) a x h) := fun x => by
    unfold w_X12_sign_95
    exact DG_call (DG_token _ _ _ _ _) (fun _ => DG_e _)
  have d85 : ∀ x, DG (fun E : Int32 × hp → Prop => w_X12_sign_85 (fun r h => E (r, h)) a b x h) := fun x => by
    unfold w_X12_sign_85
    exact DG_fi (d95 _) (d95 _)
  have d75 : ∀ x, DG (fun E : Int32 × hp → Prop => w_X12_sign_75 (fun r h => E (r, h)) a b x h) := fun x => by
    unfold w_X12_sign_75
    exact DG_fi (d85 _) (d85 _)
  have d65 : ∀ x, DG (fun E : Int32 × hp → Prop => w_X12_sign_65 (fun r h => E (r, h)) a b x h) := fun x => by
    unfold w_X12_sign_65
    exact DG_fi (d75 _) (d75 _)
  have d55 : ∀ x, DG (fun E : Int32 × hp → Prop => w_X12_sign_55 (fun r h => E (r, h)) a b x h) := fun x => by
    unfold w_X12_sign_55
    exact DG_fi (d65 _) (d65 _)
  have d43 : ∀ x, DG (fun E : Int32 × hp → Prop => w_X12_sign_43 (fun r h => E (r, h)) a b h x) := fun x => by
    unfold w_X12_sign_43
    exact DG_fi (d55 _) (d55 _)
  unfold w_X12_sign w_X12_sign_0
  exact DG_fi (DG_fi (DG_fi (DG_fi (d43 _) (d43 _)) (d43 _)) (d43 _)) (d43 _)
theorem DG_cut (h : hp) : DG (w_X12_cut h) := by
  unfold w_X12_cut w_X12_cut_0
  refine DG_let (fun h1 => ?_)
  unfold w_X12_cut_7
  refine DG_loop (F := fun Q X q => w_X12_cut_b7 Q X q.1 q.2) (fun s => ?_) (0, h1)
  unfold w_X12_cut_b7
  have l179 : ∀ {α : Type} (x1 x3 x6 : Int32) (x4 : Int64) (h : hp) (g : Int32 × hp → α) (k : hp → α), DG (fun E : α → Prop => w_X12_cut_179 (fun h => E (k h)) (fun q => E (g q)) x1 x3 x4 x6 h) := fun x1 x3 x6 x4 h g k => by
    unfold w_X12_cut_179
    exact DG_call (DG_token _ _ _ _ _) (fun _ => DG_let (fun _ => DG_e _))
  have l146 : ∀ {α : Type} (x1 x3 x6 : Int32) (x4 : Int64) (h : hp) (g : Int32 × hp → α) (k : hp → α), DG (fun E : α → Prop => w_X12_cut_146 (fun h => E (k h)) (fun q => E (g q)) x1 x3 x4 h x6 0) := fun x1 x3 x6 x4 h g k => by
    unfold w_X12_cut_146
    refine DG_loop (F := fun E X q => w_X12_cut_b146 (fun h => E (k h)) (fun q => E (g q)) x1 x3 x4 h X q.1 q.2) (fun s => ?_) (x6, 0)
    unfold w_X12_cut_b146
    refine DG_if (l179 _ _ _ _ _ (fun q => Sum.inl (g q)) (fun h => Sum.inl (k h))) (DG_and (DG_fi (DG_let (fun _ => DG_e (Sum.inr _))) (DG_let (fun _ => DG_let (fun _ => DG_e (Sum.inr _))))))
  have l135 : ∀ {α : Type} (x1 x3 s0 : Int32) (x4 : Int64) (h : hp) (g : Int32 × hp → α) (k : hp → α), DG (fun E : α → Prop => w_X12_cut_135 (fun h => E (k h)) (fun q => E (g q)) x1 x3 x4 h s0) := fun x1 x3 s0 x4 h g k => by
    unfold w_X12_cut_135
    exact DG_if (l179 _ _ _ _ _ g k) (l146 _ _ _ _ _ g k)
  have l85 : ∀ {α : Type} (x1 : Int32) (h : hp) (g : Int32 × hp → α) (k : hp → α), DG (fun E : α → Prop => w_X12_cut_85 (fun h => E (k h)) (fun q => E (g q)) x1 h 0 0) := fun x1 h g k => by
    unfold w_X12_cut_85
    refine DG_loop (F := fun E X q => w_X12_cut_b85 (fun h => E (k h)) (fun q => E (g q)) x1 h X q.1 q.2) (fun s => ?_) (0, 0)
    unfold w_X12_cut_b85
    refine DG_call (DG_byteAt _ _) (fun _ => DG_call (DG_isLetter _) (fun _ => DG_if (DG_if (l135 _ _ _ _ _ (fun q => Sum.inl (g q)) (fun h => Sum.inl (k h))) (l135 _ _ _ _ _ (fun q => Sum.inl (g q)) (fun h => Sum.inl (k h)))) (DG_if (DG_let (fun _ => DG_e (Sum.inr _))) (DG_call (DG_byteAt _ _) (fun _ => DG_call (DG_appends _ _) (fun _ => DG_let (fun _ => DG_e (Sum.inr _))))))))
  have l261 : ∀ {α : Type} (x1 x3 x4 s0 : Int32) (h : hp) (g : Int32 × hp → α) (k : hp → α), DG (fun E : α → Prop => w_X12_cut_261 (fun h => E (k h)) (fun q => E (g q)) x1 x3 x4 h s0) := fun x1 x3 x4 s0 h g k => by
    unfold w_X12_cut_261
    exact DG_call (DG_token _ _ _ _ _) (fun _ => DG_let (fun _ => DG_e _))
  have l208 : ∀ {α : Type} (x1 : Int32) (h : hp) (g : Int32 × hp → α) (k : hp → α), DG (fun E : α → Prop => w_X12_cut_208 (fun h => E (k h)) (fun q => E (g q)) x1 h 0 0) := fun x1 h g k => by
    unfold w_X12_cut_208
    refine DG_loop (F := fun E X q => w_X12_cut_b208 (fun h => E (k h)) (fun q => E (g q)) x1 h X q.1 q.2) (fun s => ?_) (0, 0)
    unfold w_X12_cut_b208
    refine DG_call (DG_byteAt _ _) (fun _ => DG_call (DG_isDigit _) (fun _ => DG_if (DG_if (l261 _ _ _ _ _ (fun q => Sum.inl (g q)) (fun h => Sum.inl (k h))) (l261 _ _ _ _ _ (fun q => Sum.inl (g q)) (fun h => Sum.inl (k h)))) (DG_if (DG_let (fun _ => DG_e (Sum.inr _))) (DG_call (DG_byteAt _ _) (fun _ => DG_let (fun _ => DG_let (fun _ => DG_e (Sum.inr _))))))))
  refine DG_if (DG_e (Sum.inl _)) (DG_call (DG_byteAt _ _) (fun _ => DG_if (DG_if (DG_let (fun _ => DG_e (Sum.inr _))) (DG_if (DG_let (fun _ => DG_e (Sum.inr _))) (DG_if (DG_let (fun _ => DG_e (Sum.inr _))) (DG_fi (DG_call (DG_isLetter _) (fun _ => DG_if (DG_call (DG_isDigit _) (fun _ => DG_if (DG_call (DG_byteAt _ _) (fun _ => DG_call2 (DG_sign _ _ _ _) (fun _ _ => DG_let (fun _ => DG_e (Sum.inr _))))) (l208 _ _ (fun q => Sum.inr q) (fun h => Sum.inl h)))) (l85 _ _ (fun q => Sum.inr q) (fun h => Sum.inl h)))) (DG_let (fun _ => DG_e (Sum.inr _))))))) (DG_call (DG_token _ _ _ _ _) (fun _ => DG_e (Sum.inl _)))))
theorem DG_plain (h : hp) (x : Int32) : DG (w_X12_plain h x) := by
  unfold w_X12_plain w_X12_plain_0
  refine DG_and (DG_let (fun _ => DG_and (DG_let (fun _ => DG_and (DG_let (fun _ => DG_and (DG_let (fun _ => DG_and (DG_let (fun _ => DG_and (DG_let (fun _ => DG_and (DG_let (fun h7 => ?_))))))))))))))
  unfold w_X12_plain_52
  refine DG_loop (F := fun E X q => w_X12_plain_b52 E x X q.1 q.2) (fun s => ?_) (0, h7)
  unfold w_X12_plain_b52
  exact DG_if (DG_e (Sum.inl _)) (DG_and (DG_let (fun _ => DG_and (DG_let (fun _ => DG_let (fun _ => DG_e (Sum.inr _)))))))
/-- read(), up to the first tell -/
def preEnd (E : hp → Prop) (h3 : hp) : Prop := w_X12_cut h3 (fun h4 => ∀ h5, h5 = sI h4 0 11 0 → (∀ h6, h6 = sI h5 0 12 0 → (∀ h7, h7 = sI h6 0 13 0 → (∀ h8, h8 = sI h7 0 15 0 → (∀ h9, h9 = sI h8 0 19 (1 - (gI h8 0 18)) → (∀ h10, h10 = sI h9 0 20 0 → (w_X12_plain h10 (gI h10 0 19) (fun h11 => ∀ h12, h12 = sI h11 0 37 (130 * (gI h11 0 19)) → (∀ h13, h13 = sI h12 0 43 (420 * (gI h12 0 19)) → (E h13))))))))))
def preF (E : hp → Prop) (X : Int32 × hp → Prop) (q : Int32 × hp) : Prop := ((gI q.2 0 4) ≤ q.1 → (∀ h3, h3 = sI q.2 0 2 0 → preEnd E h3)) ∧ (¬ ((gI q.2 0 4) ≤ q.1) → (vp_in q.1 2000 ∧ (vp_in q.1 2000 ∧ ∀ h14, h14 = sI q.2 2 (ix q.1) (jb (gI q.2 1 (ix q.1))) → (∀ x1_15, x1_15 = q.1 + 1 → (X (x1_15, h14))))))
def preR (h : hp) (E : hp → Prop) : Prop := ∀ h1, h1 = sI h 0 4 (gI h 0 2) → wLoop (preF E) (0, h1)
theorem DG_pre (h : hp) : DG (preR h) := by
  unfold preR
  refine DG_let (fun h1 => DG_loop (F := preF) (fun s => ?_) (0, h1))
  unfold preF preEnd
  exact DG_if (DG_let (fun _ => DG_call (DG_cut _) (fun _ => DG_let (fun _ => DG_let (fun _ => DG_let (fun _ => DG_let (fun _ => DG_let (fun _ => DG_let (fun _ => DG_call (DG_plain _ _) (fun _ => DG_let (fun _ => DG_let (fun _ => DG_e (Sum.inl _)))))))))))) ) (DG_and (DG_and (DG_let (fun _ => DG_let (fun _ => DG_e (Sum.inr _))))))
theorem pre_read {h : hp} {Q : Int32 → hp → Prop} (e : preR h (fun h13 => w_X12_read_112 Q h13)) : w_X12_read h Q := e
/-! all tells -/
theorem L_all {T : Tb} {d s : Nat} (hs : s < 2) : ∀ (n : Nat) (t x W : Nat) (Q0 : Int32) (R NS K f B : Nat) (hc hm : hp), 401 - t = n → x ≤ t → TS T hc hm d s t W Q0 R NS K f B →
    ∃ hc1 hm1, eqE (scrC d) hc hc1 ∧ eqE (scrM s) hm hm1 ∧ (BS hc1 hm1 ∨ ∃ t1 W1 Q1 R1 NS1 K1 f1 B1, TS T hc1 hm1 d s t1 W1 Q1 R1 NS1 K1 f1 B1) ∧ (∀ (Q : Int32 → hp → Prop) (X : Int32 × Int32 × hp → Prop), (∀ q, w_X5_readDraft_b36 1 2000 Q X q.1 q.2.1 q.2.2 → X q) → w_X5_readDraft_66 1 2000 Q hc1 → X (1, nI x, hc)) ∧ (∀ (Q : Int32 → hp → Prop) (X : hp → Prop), (∀ q, w_X12_read_b112 Q X q → X q) → w_X12_read_136 Q 0 hm1 → X hm) := by
  intro n
  induction n using Nat.strongRecOn with
  | ind n ih =>
    intro t x W Q0 R NS K f B hc hm hn hx S
    have g := S.1
    have t4 := g.1.2.2.2.1
    have z := GS_0 g
    have n400 : ¬ (400 : Int32) < nI x := nI_nlt (a := 400) (b := x) (by omega) (by omega)
    have kz : cK (tbK T t) = 0 ↔ tbK T t = 0 := cK_inj (b := 0) (g.1.1.2.1 t) (by omega)
    by_cases k0 : tbK T t = 0
    · refine ⟨hc, hm, eqE_refl _, eqE_refl _, Or.inr ⟨t, W, Q0, R, NS, K, f, B, S⟩, fun Q X cl hq => cl _ ?_, fun Q X cl hq => cl _ ?_⟩
      · show w_X5_readDraft_b36 1 2000 Q X 1 (nI x) hc
        unfold w_X5_readDraft_b36
        exact ⟨fun c => absurd c n400, fun _ => ⟨fun _ => hq, fun _ => kindH (GS_c g) ⟨fun _ => hq, fun c => absurd (kz.mpr k0) c⟩⟩⟩
      · unfold w_X12_read_b112
        exact ⟨fun c => absurd z.1 c, fun _ => isH (x := 0) (GS_m g) (by omega) (fun _ => ⟨fun _ => hq, fun q => absurd q (by decide)⟩) (fun c => absurd k0 c)⟩
    · have cGo : ∀ (Q : Int32 → hp → Prop) (X : Int32 × Int32 × hp → Prop), (∀ q, w_X5_readDraft_b36 1 2000 Q X q.1 q.2.1 q.2.2 → X q) → w_X5_readTell hc (fun r13 h12 => X (r13, nI (x + 1), h12)) → X (1, nI x, hc) := fun Q X cl hq => cl _ (by
        show w_X5_readDraft_b36 1 2000 Q X 1 (nI x) hc
        unfold w_X5_readDraft_b36
        refine ⟨fun c => absurd c n400, fun _ => ⟨fun c => absurd c (by decide), fun _ => kindH (GS_c g) ⟨fun c => absurd (kz.mp c) k0, fun _ => ?_⟩⟩⟩
        rw [← nI_succ]
        have e : (fun r13 h12 => ∀ x4_14, x4_14 = nI (x + 1) → X (r13, x4_14, h12)) = (fun r13 h12 => X (r13, nI (x + 1), h12)) := by
          funext r h
          exact propext ⟨fun q => q _ rfl, fun q y ey => by subst ey; exact q⟩
        rw [e]
        exact hq)
      have mGo : ∀ (Q : Int32 → hp → Prop) (X : hp → Prop), (∀ q, w_X12_read_b112 Q X q → X q) → w_X12_tell hm (fun h20 => X h20) → X hm := fun Q X cl hq => cl _ (by
        unfold w_X12_read_b112
        exact ⟨fun c => absurd z.1 c, fun _ => isH (x := 0) (GS_m g) (by omega) (fun c => absurd c k0) (fun _ => ⟨fun q => absurd rfl q, fun _ => hq⟩)⟩)
      rcases L_tell S with ⟨hc1, hm1, b, e1, e2, r1, r2⟩ | ⟨hc1, hm1, t1, W1, Q1, R1, NS1, K1, f1, B1, S1, ht, e1, e2, r1, r2⟩
      · obtain ⟨F, P, cf, fm⟩ := b
        refine ⟨hc1, hm1, e1, e2, Or.inl ⟨F, P, cf, fm⟩, fun Q X cl hq => cGo Q X cl (r1 _ (cl _ ?_)), fun Q X cl hq => mGo Q X cl (r2 _ (cl _ ?_))⟩
        · show w_X5_readDraft_b36 1 2000 Q X 0 (nI (x + 1)) hc1
          unfold w_X5_readDraft_b36
          exact ⟨fun _ => hq, fun _ => ⟨fun _ => hq, fun c => absurd rfl c⟩⟩
        · unfold w_X12_read_b112
          exact ⟨fun _ => hq, fun q => absurd q (FM_ne fm).1⟩
      · have t14 := S1.1.1.2.2.2.1
        obtain ⟨hc2, hm2, u1, u2, u3, u4, u5⟩ := ih (401 - t1) (by omega) t1 (x + 1) W1 Q1 R1 NS1 K1 f1 B1 hc1 hm1 rfl (by omega) S1
        exact ⟨hc2, hm2, eqE_trans e1 u1, eqE_trans e2 u2, u3, fun Q X cl hq => cGo Q X cl (r1 _ (u4 Q X cl hq)), fun Q X cl hq => mGo Q X cl (r2 _ (u5 Q X cl hq))⟩
/-- behind all tells: the shares that are too great -/
theorem L_great {T : Tb} {d s t : Nat} {Q0 : Int32} {R NS K f B : Nat} {hc hm : hp} (S : TS T hc hm d s t 0 Q0 R NS K f B) {AT WH SK : Nat → Nat} {P : Nat} (q1 : ∀ i, i < NS → 1 ≤ AT i ∧ AT i ≤ 96 ∧ WH i ≤ 96 ∧ ∀ j, j < NS → ¬ i = j → ¬ AT i = AT j) (q2 : cSh (d + 9) hc NS AT WH) (q3 : mSh s hm NS AT WH) (q4 : ∀ i, i < NS → SK i ≤ 400 ∧ SK i ≤ tbC T ∧ gI hc (d + 9 + 2) i = nI (tbS T (SK i)) ∧ gI hm 16 (8 * s + i) = nI (SK i)) (p1 : isPr P) (p2 : cP d hc P) (p3 : gI hm 12 s = nI P) :
    ((∀ i, i < NS → AT i < P) ∧ (∀ Q : Int32 → hp → Prop, Q 0 hc → w_X5_readDraft_66 1 2000 Q hc) ∧ (∀ Q : Int32 → hp → Prop, w_X12_read_215 Q hm → w_X12_read_136 Q 0 hm)) ∨
    (∃ q, (∀ Q : Int32 → hp → Prop, Q 6 (sI (sI hc 2 1 6) 2 0 (nI (tbS T q))) → w_X5_readDraft_66 1 2000 Q hc) ∧ (∀ Q : Int32 → hp → Prop, w_X12_read_215 Q (sI (sI hm 0 15 6) 0 16 (nI (tbS T q))) → w_X12_read_136 Q 0 hm)) := by
  obtain ⟨g, ⟨a1, a2, a3, a4, a5, a6⟩, ⟨b1, _⟩, _, ⟨o1, o2⟩, _, _⟩ := S
  have hd := O18 a1
  have gc := GS_c g
  have gm := GS_m g
  have c21 : gI hc 2 1 = 0 := gc.2.2.1
  have m15 : gI hm 0 15 = 0 := gm.2.2.2.1
  have m13 : gI hm 0 13 = 0 := gm.2.2.1
  have ixs : ix (nI s) = s := ix_n (by omega)
  have ins : vp_in (nI s) 2 := in_n a3 (by omega)
  have P97 := p1.1.2
  have cIn : ∀ Q : Int32 → hp → Prop, w_X5_findGreat hc (fun h16 => Q (gI h16 2 1) h16) → w_X5_readDraft_66 1 2000 Q hc := fun Q hq => by
    unfold w_X5_readDraft_66
    exact ⟨fun n => absurd c21 n, fun _ => hq⟩
  have key : ∀ n k, n + k = NS → (∀ i, i < k → AT i < P) → ((∀ i, i < NS → AT i < P) ∧ (∀ (Q : hp → Prop) (X : Int32 × hp → Prop), (∀ q, w_X5_findGreat_b2 Q X q.1 q.2 → X q) → Q hc → X (nI k, hc)) ∧ (∀ (Q : Int32 → hp → Prop) (X : Int32 × hp → Prop), (∀ q, w_X12_read_b136 Q X q.1 q.2 → X q) → w_X12_read_215 Q hm → X (nI k, hm))) ∨
      (∃ q, (∀ (Q : hp → Prop) (X : Int32 × hp → Prop), (∀ q, w_X5_findGreat_b2 Q X q.1 q.2 → X q) → Q (sI (sI hc 2 1 6) 2 0 (nI (tbS T q))) → X (nI k, hc)) ∧ (∀ (Q : Int32 → hp → Prop) (X : Int32 × hp → Prop), (∀ q, w_X12_read_b136 Q X q.1 q.2 → X q) → w_X12_read_215 Q (sI (sI hm 0 15 6) 0 16 (nI (tbS T q))) → X (nI k, hm))) := by
    intro n
    induction n with
    | zero =>
      intro k hk hlt
      have ek : k = NS := by omega
      subst ek
      refine Or.inl ⟨hlt, fun Q X cl hq => cl _ ?_, fun Q X cl hq => cl _ ?_⟩
      · show w_X5_findGreat_b2 Q X (nI k) hc
        unfold w_X5_findGreat_b2
        rw [a2, o1]
        exact ⟨shO7 a1, fun _ => hq, fun c => absurd (nI_le (Nat.le_refl _) (by omega)) c⟩
      · show w_X12_read_b136 Q X (nI k) hm
        unfold w_X12_read_b136
        rw [b1, ixs, o2]
        exact ⟨ins, fun _ => hq, fun c => absurd (nI_le (Nat.le_refl _) (by omega)) c⟩
    | succ n ih =>
      intro k hk hlt
      obtain ⟨A1, A2, A3, A4⟩ := q1 k (by omega)
      obtain ⟨s1, s2', s3, s4⟩ := q4 k (by omega)
      have cat : gI hc (d + 9 + 1) k = nI (AT k) := (q2.2 k (by omega)).1
      have mat : gI hm 14 (8 * s + k) = nI (AT k) := (q3.2 k (by omega)).1
      have e8 : 8 * nI s + nI k = nI (8 * s + k) := by rw [show (8 : Int32) = nI 8 from rfl, nI_mul (by omega) (by omega) (by omega), nI_add]
      have in16 : vp_in (nI (8 * s + k)) 16 := in_n (by omega) (by omega)
      have in8 : vp_in (nI k) 8 := in_n (by omega) (by omega)
      have cp' : gI hc (d + 9) 1 = nI P := p2
      have lt : nI (AT k) < nI P ↔ AT k < P := by rw [t_lt, n_toInt (by omega), n_toInt (by omega)]; omega
      -- a turn of each
      have cT : ∀ (Q : hp → Prop) (X : Int32 × hp → Prop), (∀ q, w_X5_findGreat_b2 Q X q.1 q.2 → X q) → (AT k < P → X (nI (k + 1), hc)) → (¬ AT k < P → X (nI (k + 1), sI (sI hc 2 1 6) 2 0 (nI (tbS T (SK k))))) → X (nI k, hc) := fun Q X cl h1 h2 => cl _ (by
        show w_X5_findGreat_b2 Q X (nI k) hc
        unfold w_X5_findGreat_b2
        rw [a2, o1, ix_n (n := k) (by omega), cat, cp', lt]
        refine ⟨shO7 a1, fun c => absurd c (nI_ge (by omega) (by omega)), fun _ => ⟨fun c => absurd c21 c, fun _ => ⟨shO7 a1, in8, shO7 a1, fun c y ey => ?_, fun c h8 e8' => ?_⟩⟩⟩
        · rw [← nI_succ] at ey
          subst ey
          exact h1 c
        · subst e8'
          have gr : gR (sI hc 2 1 6) 1 = d := a2
          rw [gr]
          refine ⟨shO7 a1, in8, fun h10 e10 y ey => ?_⟩
          rw [← nI_succ] at ey
          have v : gI (sI hc 2 1 6) (d + 9 + 2) k = nI (tbS T (SK k)) := by rw [gI_o _ _ (by omega)]; exact s3
          rw [v] at e10
          subst ey e10
          exact h2 c)
      have mT : ∀ (Q : Int32 → hp → Prop) (X : Int32 × hp → Prop), (∀ q, w_X12_read_b136 Q X q.1 q.2 → X q) → (AT k < P → X (nI (k + 1), hm)) → (¬ AT k < P → X (nI (k + 1), sI (sI hm 0 15 6) 0 16 (nI (tbS T (SK k))))) → X (nI k, hm) := fun Q X cl h1 h2 => cl _ (by
        show w_X12_read_b136 Q X (nI k) hm
        unfold w_X12_read_b136
        rw [b1, ixs, o2, e8, ix_n (n := 8 * s + k) (by omega), mat, p3, lt, s4]
        refine ⟨ins, fun c => absurd c (nI_ge (by omega) (by omega)), fun _ => ⟨fun c => absurd m13 c, fun _ => ⟨fun c => absurd m15 c, fun _ => ⟨in16, ins, fun c y ey => ?_, fun c => ⟨in16, amissH (F := 6) gm ⟨by omega, fun n => absurd rfl n⟩ (by omega) s1 s2' (fun y ey => ?_)⟩⟩⟩⟩⟩
        · rw [← nI_succ] at ey
          subst ey
          exact h1 c
        · rw [← nI_succ] at ey
          subst ey
          exact h2 c)
      by_cases c : AT k < P
      · rcases ih (k + 1) (by omega) (fun i hi => by
          by_cases e : i = k
          · subst e; exact c
          · exact hlt i (by omega)) with ⟨r1, r2, r3⟩ | ⟨q, r2, r3⟩
        · exact Or.inl ⟨r1, fun Q X cl hq => cT Q X cl (fun _ => r2 Q X cl hq) (fun n => absurd c n), fun Q X cl hq => mT Q X cl (fun _ => r3 Q X cl hq) (fun n => absurd c n)⟩
        · exact Or.inr ⟨q, fun Q X cl hq => cT Q X cl (fun _ => r2 Q X cl hq) (fun n => absurd c n), fun Q X cl hq => mT Q X cl (fun _ => r3 Q X cl hq) (fun n => absurd c n)⟩
      · refine Or.inr ⟨SK k, fun Q X cl hq => cT Q X cl (fun q => absurd q c) (fun _ => cl _ ?_), fun Q X cl hq => mT Q X cl (fun q => absurd q c) (fun _ => cl _ ?_)⟩
        · show w_X5_findGreat_b2 Q X (nI (k + 1)) (sI (sI hc 2 1 6) 2 0 (nI (tbS T (SK k))))
          have gr : gR (sI (sI hc 2 1 6) 2 0 (nI (tbS T (SK k)))) 1 = d := a2
          have v : gI (sI (sI hc 2 1 6) 2 0 (nI (tbS T (SK k)))) 2 1 = 6 := by rw [gI_k _ _ (by decide)]; exact gI_at _ _ _ _
          unfold w_X5_findGreat_b2
          rw [gr, v]
          exact ⟨shO7 a1, fun _ => hq, fun _ => ⟨fun _ => hq, fun q => absurd q (by decide)⟩⟩
        · show w_X12_read_b136 Q X (nI (k + 1)) (sI (sI hm 0 15 6) 0 16 (nI (tbS T (SK k))))
          have v19 : gI (sI (sI hm 0 15 6) 0 16 (nI (tbS T (SK k)))) 0 19 = nI s := by rw [gI_k _ _ (by decide), gI_k _ _ (by decide)]; exact b1
          have v13 : gI (sI (sI hm 0 15 6) 0 16 (nI (tbS T (SK k)))) 0 13 = 0 := by rw [gI_k _ _ (by decide), gI_k _ _ (by decide)]; exact m13
          have v15 : gI (sI (sI hm 0 15 6) 0 16 (nI (tbS T (SK k)))) 0 15 = 6 := by rw [gI_k _ _ (by decide)]; exact gI_at _ _ _ _
          unfold w_X12_read_b136
          rw [v19, v13, v15]
          exact ⟨ins, fun _ => hq, fun _ => ⟨fun _ => hq, fun _ => ⟨fun _ => hq, fun q => absurd q (by decide)⟩⟩⟩
  rcases key NS 0 (by omega) (fun i hi => absurd hi (Nat.not_lt_zero i)) with ⟨r1, r2, r3⟩ | ⟨q, r2, r3⟩
  · refine Or.inl ⟨r1, fun Q hq => cIn Q (fun X hX => r2 _ X hX ?_), fun Q hq X hX => r3 Q X hX hq⟩
    rw [c21]; exact hq
  · refine Or.inr ⟨q, fun Q hq => cIn Q (fun X hX => r2 _ X hX ?_), fun Q hq X hX => r3 Q X hX hq⟩
    rw [show gI (sI (sI hc 2 1 6) 2 0 (nI (tbS T q))) 2 1 = 6 from by rw [gI_k _ _ (by decide)]; exact gI_at _ _ _ _]
    exact hq
/-- where the reference ends with a fault -/
theorem m_245 {h : hp} {F W : Nat} {P Qp : Int32} {Q : Int32 → hp → Prop} (hF : F ≤ 2) (hW : W ≤ 6) (e13 : gI h 0 13 = nI F) (e15 : gI h 0 15 = nI W) (e14 : ¬ F = 0 → gI h 0 14 = P) (e16 : F = 0 → ¬ W = 0 → gI h 0 16 = P) (hn : ¬ (F = 0 ∧ W = 0)) (hq : Q (nI (if F = 0 then W else F)) (sI h 0 17 P)) : w_X12_read_215 Q h := by
  have lF : nI F ≤ 0 ↔ F = 0 := by rw [t_le, n_toInt (by omega), show (0 : Int32).toInt = 0 from rfl]; omega
  have lW : nI W ≤ 0 ↔ W = 0 := by rw [t_le, n_toInt (by omega), show (0 : Int32).toInt = 0 from rfl]; omega
  have fin : ∀ p, p = P → w_X12_read_245 Q h p := fun p ep => by
    subst ep
    unfold w_X12_read_245
    intro h30 e30
    subst e30
    rw [gI_k _ _ (by decide), gI_k _ _ (by decide), e13, e15, lF, lW]
    refine ⟨fun f0 => ⟨fun w0 => absurd ⟨f0, w0⟩ hn, fun _ => ?_⟩, fun f0 => ?_⟩
    · rw [if_pos f0] at hq; exact hq
    · rw [if_neg f0] at hq; exact hq
  unfold w_X12_read_215
  rw [e13, e15, lF, lW]
  exact ⟨fun f0 => ⟨fun w0 => absurd ⟨f0, w0⟩ hn, fun w0 => fin _ (e16 f0 w0)⟩, fun f0 => fin _ (e14 f0)⟩
theorem m_136n {h : hp} {s : Nat} {Q : Int32 → hp → Prop} (hs : s < 2) (e19 : gI h 0 19 = nI s) (hn : ¬ gI h 0 13 = 0 ∨ ¬ gI h 0 15 = 0) (hq : w_X12_read_215 Q h) : w_X12_read_136 Q 0 h := fun X hX => hX _ (by
  show w_X12_read_b136 Q X 0 h
  have ixs : ix (nI s) = s := ix_n (by omega)
  unfold w_X12_read_b136
  rw [e19, ixs]
  refine ⟨in_n hs (by omega), fun _ => hq, fun _ => ⟨fun _ => hq, fun z => ⟨fun _ => hq, fun z2 => ?_⟩⟩⟩
  rcases hn with n | n
  · exact absurd z n
  · exact absurd z2 n)
