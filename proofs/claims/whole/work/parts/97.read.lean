/-! the tokens of a tape: bytes f, n of them -/
theorem jb_id {z : Int32} (h1 : -128 ≤ z.toInt) (h2 : z.toInt ≤ 127) : jb z = z := by
  have e : jb z = z.toInt8.toInt32 := rfl
  refine t_eq.mpr ?_
  rw [e, Int8.toInt_toInt32, Int32.toInt_toInt8]
  exact Int.bmod_eq_of_le (by omega) (by omega)
/-- a byte without a sign -/
theorem and255 {z : Int32} (h1 : -128 ≤ z.toInt) (h2 : z.toInt ≤ 127) : (z &&& 255).toInt = if z.toInt < 0 then z.toInt + 256 else z.toInt := by
  have e : (z &&& 255).toBitVec.toNat = z.toBitVec.toNat % 256 := by
    rw [Int32.toBitVec_and, BitVec.toNat_and, show (255 : Int32).toBitVec.toNat = 2 ^ 8 - 1 from rfl]
    exact Nat.and_two_pow_sub_one_eq_mod _ _
  have hlt : z.toBitVec.toNat % 256 < 256 := Nat.mod_lt _ (by decide)
  have e2 : (z &&& 255).toInt = ((z.toBitVec.toNat % 256 : Nat) : Int) := by
    show (z &&& 255).toBitVec.toInt = _
    rw [BitVec.toInt_eq_toNat_of_lt (by rw [e]; omega), e]
  have e3 : z.toInt = if 2 * z.toBitVec.toNat < 2 ^ 32 then (z.toBitVec.toNat : Int) else (z.toBitVec.toNat : Int) - ((2 ^ 32 : Nat) : Int) := BitVec.toInt_eq_toNat_cond z.toBitVec
  rw [e2]
  have hz := z.toBitVec.isLt
  by_cases c : 2 * z.toBitVec.toNat < 2 ^ 32
  · rw [if_pos c] at e3
    rw [if_neg (by omega)]
    omega
  · rw [if_neg c] at e3
    rw [if_pos (by omega)]
    omega
def isBk (z : Int32) : Bool := decide (z.toInt = 9 ∨ z.toInt = 10 ∨ z.toInt = 13 ∨ z.toInt = 32)
def isLt (z : Int32) : Bool := decide (97 ≤ z.toInt ∧ z.toInt ≤ 122)
def isDg (z : Int32) : Bool := decide (48 ≤ z.toInt ∧ z.toInt ≤ 57)
theorem isBk_t {z : Int32} : isBk z = true ↔ (z.toInt = 9 ∨ z.toInt = 10 ∨ z.toInt = 13 ∨ z.toInt = 32) := decide_eq_true_iff
theorem isLt_t {z : Int32} : isLt z = true ↔ (97 ≤ z.toInt ∧ z.toInt ≤ 122) := decide_eq_true_iff
theorem isDg_t {z : Int32} : isDg z = true ↔ (48 ≤ z.toInt ∧ z.toInt ≤ 57) := decide_eq_true_iff
/-- where a run of bytes of a kind, from i on, has ended -/
def rn (p : Int32 → Bool) (f : Nat → Int32) (n i : Nat) : Nat := if _h : i < n ∧ p (f i) = true then rn p f n (i + 1) else i
termination_by n - i
decreasing_by omega
theorem rn_s {p : Int32 → Bool} {f : Nat → Int32} {n i : Nat} (h1 : i < n) (h2 : p (f i) = true) : rn p f n i = rn p f n (i + 1) := by
  rw [rn, dif_pos ⟨h1, h2⟩]
theorem rn_e {p : Int32 → Bool} {f : Nat → Int32} {n i : Nat} (h : ¬ (i < n ∧ p (f i) = true)) : rn p f n i = i := by
  rw [rn, dif_neg h]
theorem rn_spec (p : Int32 → Bool) (f : Nat → Int32) (n : Nat) : ∀ (m i : Nat), n - i = m → i ≤ rn p f n i ∧ (i ≤ n → rn p f n i ≤ n) ∧ (∀ k, i ≤ k → k < rn p f n i → k < n ∧ p (f k) = true) ∧ ¬ (rn p f n i < n ∧ p (f (rn p f n i)) = true) := by
  intro m
  induction m with
  | zero =>
    intro i hi
    have e : rn p f n i = i := rn_e (fun q => by omega)
    rw [e]
    exact ⟨Nat.le_refl _, fun q => q, fun k h1 h2 => by omega, fun q => by omega⟩
  | succ m ih =>
    intro i hi
    by_cases c : p (f i) = true
    · have e : rn p f n i = rn p f n (i + 1) := rn_s (by omega) c
      obtain ⟨g1, g2, g3, g4⟩ := ih (i + 1) (by omega)
      rw [e]
      refine ⟨by omega, fun _ => g2 (by omega), fun k h1 h2 => ?_, g4⟩
      by_cases k' : k = i
      · subst k'; exact ⟨by omega, c⟩
      · exact g3 k (by omega) h2
    · have e : rn p f n i = i := rn_e (fun q => c q.2)
      rw [e]
      exact ⟨Nat.le_refl _, fun q => q, fun k h1 h2 => by omega, fun q => c q.2⟩
def tEnd (f : Nat → Int32) (n i : Nat) : Nat := if isLt (f i) = true then rn isLt f n i else if isDg (f i) = true then rn isDg f n i else i + 1
/-- where the k-th token begins (n and more: there is none) -/
def pos (f : Nat → Int32) (n : Nat) : Nat → Nat
  | 0 => rn isBk f n 0
  | k + 1 => rn isBk f n (tEnd f n (pos f n k))
def cdF (f : Nat → Int32) (i : Nat) : Nat → Int64
  | 0 => 0
  | c + 1 => cdF f i c * 27 + ((f (i + c) - 97) + 1).toInt64
def dgF' (f : Nat → Int32) (i : Nat) : Nat → Int32
  | 0 => 0
  | c + 1 => dgF' f i c * 10 + (f (i + c) - 48)
def kwF (v : Int64) : Nat → Nat
  | 0 => 1
  | k + 1 => if wrd (16 - k) = v then 20 + (16 - k) else kwF v k
def sgF (z : Int32) : Nat := if z = 59 then 4 else if z = 61 then 5 else if z = 40 then 6 else if z = 41 then 7 else if z = 43 then 8 else if z = 45 then 9 else if z = 42 then 10 else if z = 60 then 13 else if z = 47 then 15 else 3
def tkK (f : Nat → Int32) (n i : Nat) : Nat := if isLt (f i) = true then (if rn isLt f n i - i ≤ 8 then kwF (cdF f i (rn isLt f n i - i)) 17 else 3) else if isDg (f i) = true then (if rn isDg f n i - i ≤ 4 then 2 else 3) else sgF (f i)
def tkV (f : Nat → Int32) (n i : Nat) : Int64 := if isLt (f i) = true then cdF f i (rn isLt f n i - i) else if isDg (f i) = true then (dgF' f i (rn isDg f n i - i)).toInt64 else 0
/-- the class's number of a kind -/
def cK (t : Nat) : Int32 := ([0, 2, 3, 1, 59, 61, 40, 41, 43, 45, 42, -11, -12, 60, -14, 47, -16, -17, -18, -19, 256, 257, 258, 259, 260, 261, 262, 263, 264, 265, 266, 267, 268, 269, 270, 271, 272] : List Int32).getD t (-1)
theorem cK_w {i : Nat} (h : i < 17) : cK (20 + i) = 256 + nI i := by
  have : ∀ i, i < 17 → cK (20 + i) = 256 + nI i := by decide +kernel
  exact this i h
theorem cK_sg {z : Int32} (n : ¬ sgF z = 3) : cK (sgF z) = z := by
  unfold sgF at n ⊢
  by_cases c59 : z = 59
  · subst c59; decide
  rw [if_neg c59] at n ⊢
  by_cases c61 : z = 61
  · subst c61; decide
  rw [if_neg c61] at n ⊢
  by_cases c40 : z = 40
  · subst c40; decide
  rw [if_neg c40] at n ⊢
  by_cases c41 : z = 41
  · subst c41; decide
  rw [if_neg c41] at n ⊢
  by_cases c43 : z = 43
  · subst c43; decide
  rw [if_neg c43] at n ⊢
  by_cases c45 : z = 45
  · subst c45; decide
  rw [if_neg c45] at n ⊢
  by_cases c42 : z = 42
  · subst c42; decide
  rw [if_neg c42] at n ⊢
  by_cases c60 : z = 60
  · subst c60; decide
  rw [if_neg c60] at n ⊢
  by_cases c47 : z = 47
  · subst c47; decide
  rw [if_neg c47] at n ⊢
  exact absurd rfl n
def cTk (h : hp) (f : Nat → Int32) (n c : Nat) : Prop := c ≤ 401 ∧ (∀ k, k < c → pos f n k < n ∧ gI h 4 k = cK (tkK f n (pos f n k)) ∧ gI h 5 k = nI (pos f n k) ∧ gL h 6 k = tkV f n (pos f n k)) ∧ (c ≤ 400 → n ≤ pos f n c) ∧ gI h 4 c = 0 ∧ gI h 5 c = nI n
def mTk (h : hp) (f : Nat → Int32) (n c : Nat) : Prop := c ≤ 401 ∧ (∀ k, k < c → pos f n k < n ∧ gI h 3 k = nI (tkK f n (pos f n k)) ∧ gI h 4 k = nI (pos f n k) ∧ (tkK f n (pos f n k) = 2 → gI h 5 k = (tkV f n (pos f n k)).toInt32) ∧ (tkK f n (pos f n k) = 1 → gL h 6 k = tkV f n (pos f n k))) ∧ (c ≤ 400 → n ≤ pos f n c ∧ gI h 3 c = 0 ∧ gI h 4 c = nI n)
/-! the class cuts -/
theorem c_isBlank {z : Int32} {Q : Int32 → Prop} (hq1 : isBk z = true → Q 1) (hq0 : ¬ isBk z = true → Q 0) : w_X8_isBlank z Q := by
  unfold w_X8_isBlank w_X8_isBlank_0
  have e9 : z = 9 ↔ z.toInt = 9 := t_eq
  have e10 : z = 10 ↔ z.toInt = 10 := t_eq
  have e13 : z = 13 ↔ z.toInt = 13 := t_eq
  have e32 : z = 32 ↔ z.toInt = 32 := t_eq
  exact ⟨fun c => hq1 (isBk_t.mpr (Or.inl (e9.mp c))), fun n9 => ⟨fun c => hq1 (isBk_t.mpr (Or.inr (Or.inl (e10.mp c)))), fun n10 => ⟨fun c => hq1 (isBk_t.mpr (Or.inr (Or.inr (Or.inl (e13.mp c))))), fun n13 => ⟨fun n32 => hq0 (fun q => by
    rcases isBk_t.mp q with q | q | q | q
    · exact n9 (e9.mpr q)
    · exact n10 (e10.mpr q)
    · exact n13 (e13.mpr q)
    · exact n32 (e32.mpr q)), fun c => hq1 (isBk_t.mpr (Or.inr (Or.inr (Or.inr (e32.mp c)))))⟩⟩⟩⟩
theorem m_isLetter {z : Int32} {Q : Int32 → Prop} (hq1 : isLt z = true → Q 1) (hq0 : ¬ isLt z = true → Q 0) : w_X12_isLetter z Q := by
  unfold w_X12_isLetter w_X12_isLetter_0
  have e1 : (97 : Int32).toInt = 97 := rfl
  have e2 : (122 : Int32).toInt = 122 := rfl
  rw [t_lt, t_lt, e1, e2]
  exact ⟨fun c => hq0 (fun q => by have := isLt_t.mp q; omega), fun c => ⟨fun d => hq0 (fun q => by have := isLt_t.mp q; omega), fun d => hq1 (isLt_t.mpr ⟨by omega, by omega⟩)⟩⟩
theorem c_isLetter {z : Int32} {Q : Int32 → Prop} (hq1 : isLt z = true → Q 1) (hq0 : ¬ isLt z = true → Q 0) : w_X8_isLetter z Q := m_isLetter hq1 hq0
theorem m_isDigit {z : Int32} {Q : Int32 → Prop} (hq1 : isDg z = true → Q 1) (hq0 : ¬ isDg z = true → Q 0) : w_X12_isDigit z Q := by
  unfold w_X12_isDigit w_X12_isDigit_0
  have e1 : (48 : Int32).toInt = 48 := rfl
  have e2 : (57 : Int32).toInt = 57 := rfl
  rw [t_lt, t_lt, e1, e2]
  exact ⟨fun c => hq0 (fun q => by have := isDg_t.mp q; omega), fun c => ⟨fun d => hq0 (fun q => by have := isDg_t.mp q; omega), fun d => hq1 (isDg_t.mpr ⟨by omega, by omega⟩)⟩⟩
theorem c_isDigit {z : Int32} {Q : Int32 → Prop} (hq1 : isDg z = true → Q 1) (hq0 : ¬ isDg z = true → Q 0) : w_X8_isDigit z Q := m_isDigit hq1 hq0
theorem c_isSign {z : Int32} {Q : Int32 → Prop} (hq1 : ¬ sgF z = 3 → Q 1) (hq0 : sgF z = 3 → Q 0) : w_X8_isSign z Q := by
  unfold w_X8_isSign w_X8_isSign_0
  intro sw e
  subst e
  refine ⟨?_, ?_, ?_, ?_, ?_, ?_, ?_, ?_, ?_, ?_, ?_, ?_, ?_, ?_, ?_, ?_, ?_, ?_, ?_, ?_, ?_, ?_, ?_⟩
  all_goals first
    | (intro c; subst c; exact hq1 (by decide))
    | (intro c; subst c; exact hq0 (by decide))
    | skip
  intro c
  refine hq0 ?_
  have g : ∀ v : Int32, 40 ≤ v.toInt → v.toInt ≤ 61 → ¬ sw = v := fun v h1 h2 q => by subst q; omega
  unfold sgF
  rw [if_neg (g _ (by decide) (by decide)), if_neg (g _ (by decide) (by decide)), if_neg (g _ (by decide) (by decide)), if_neg (g _ (by decide) (by decide)), if_neg (g _ (by decide) (by decide)), if_neg (g _ (by decide) (by decide)), if_neg (g _ (by decide) (by decide)), if_neg (g _ (by decide) (by decide)), if_neg (g _ (by decide) (by decide))]
theorem c_kindOf {h : hp} {v : Int64} {Q : Int32 → Prop} (hw : ∀ i, i < 17 → gL h 7 i = wrd i) (hq : Q (cK (kwF v 17))) : w_X8_kindOf h v Q := by
  unfold w_X8_kindOf w_X8_kindOf_0 w_X8_kindOf_2
  intro X hX
  have key : ∀ m, m ≤ 17 → Q (cK (kwF v m)) → X (nI (17 - m)) := by
    intro m
    induction m with
    | zero =>
      intro _ hq
      apply hX
      exact ⟨fun _ => hq, fun c => absurd (by decide) c⟩
    | succ m ih =>
      intro hm hq
      apply hX
      refine ⟨fun c => absurd c (nI_ge (a := 17 - (m + 1)) (b := 17) (by omega) (by omega)), fun _ => ⟨in_n (by omega) (by omega), ?_⟩⟩
      rw [ix_n (by omega), hw _ (by omega), show 17 - (m + 1) = 16 - m from by omega]
      unfold kwF at hq
      refine ⟨fun c x ex => ?_, fun c => ?_⟩
      · rw [if_neg c] at hq
        rw [← nI_succ, show 16 - m + 1 = 17 - m from by omega] at ex
        subst ex
        exact ih (by omega) hq
      · rw [if_pos c, cK_w (by omega)] at hq
        exact hq
  exact key 17 (Nat.le_refl _) hq
def cutS (a j : Nat) : Prop := a = 4 ∨ a = 5 ∨ a = 6 ∨ (a = 3 ∧ j = 4)
def tkPut (h : hp) (m : Nat) (k : Int32) (i : Nat) (v : Int64) : hp := sI (sL (sI (sI h 4 m k) 5 m (nI i)) 6 m v) 3 4 (nI (m + 1))
theorem c_tkAdd {h : hp} {m i : Nat} {k : Int32} {v : Int64} {Q : hp → Prop} (e : gI h 3 4 = nI m) (hm : m < 401) (hq : Q (tkPut h m k i v)) : w_X8_add h k (nI i) v Q := by
  unfold w_X8_add w_X8_add_0
  rw [e]
  refine ⟨fun c => absurd c (nI_ge (a := m) (b := 401) (by omega) (by omega)), fun _ => ⟨in_n (by omega) (by omega), fun h2 e2 => ?_⟩⟩
  rw [ix_n (by omega)] at e2
  subst e2
  rw [gI_o _ _ (by decide), e]
  refine ⟨in_n (by omega) (by omega), fun h3 e3 => ?_⟩
  rw [ix_n (by omega)] at e3
  subst e3
  rw [gI_o _ _ (by decide), gI_o _ _ (by decide), e]
  refine ⟨in_n (by omega) (by omega), fun h4 e4 h5 e5 => ?_⟩
  rw [ix_n (by omega)] at e4
  subst e4
  rw [gI_sL, gI_o _ _ (by decide), gI_o _ _ (by decide), e, ← nI_succ] at e5
  subst e5
  exact hq
theorem c_cutName {h : hp} {f : Nat → Int32} {n i m : Nat} {Q : Int32 → hp → Prop} (a : aTape 1 h n f) (hw : ∀ i, i < 17 → gL h 7 i = wrd i) (e : gI h 3 4 = nI m) (hm : m < 401) (hi : i < n) (hq : Q (nI (rn isLt f n i)) (tkPut h m (cK (if rn isLt f n i - i ≤ 8 then kwF (cdF f i (rn isLt f n i - i)) 17 else 3)) i (cdF f i (rn isLt f n i - i)))) : w_X8_cutName 1 2000 h (nI n) (nI i) Q := by
  unfold w_X8_cutName w_X8_cutName_0 w_X8_cutName_6
  have hn := a.2.1
  intro X hX
  have out : ∀ j, i ≤ j → j ≤ n → rn isLt f n i = j → w_X8_cutName_39 1 2000 Q (nI i) (nI j) (cdF f i (j - i)) h := fun j h1 h2 ej => by
    rw [ej] at hq
    unfold w_X8_cutName_39 w_X8_cutName_59
    rw [nI_sub h1 (by omega)]
    refine ⟨fun c => ?_, fun c => ?_⟩
    · have c' : j - i ≤ 8 := (nI_leI (a := j - i) (b := 8) (by omega) (by omega)).mp c
      rw [if_pos c'] at hq
      exact c_kindOf hw (c_tkAdd e hm hq)
    · have c' : ¬ j - i ≤ 8 := fun q => c ((nI_leI (a := j - i) (b := 8) (by omega) (by omega)).mpr q)
      rw [if_neg c'] at hq
      exact c_tkAdd e hm hq
  have key : ∀ q j, n - j = q → i ≤ j → j ≤ n → rn isLt f n i = rn isLt f n j → X (nI j, cdF f i (j - i)) := by
    intro q
    induction q with
    | zero =>
      intro j hj h1 h2 er
      apply hX
      refine ⟨fun _ => out j h1 h2 (by rw [er]; exact rn_e (fun z => by omega)), fun c => absurd (nI_le (by omega) (by omega)) c⟩
    | succ q ih =>
      intro j hj h1 h2 er
      apply hX
      refine ⟨fun c => absurd c (nI_ge (by omega) (by omega)), fun _ => ⟨in_n (by omega) (by omega), ?_⟩⟩
      show w_X8_isLetter (gI h 1 (ix (nI j))) _
      rw [ix_n (by omega), a.2.2 j (by omega)]
      refine c_isLetter (fun c => ⟨fun z => absurd z (by decide), fun _ => ⟨in_n (by omega) (by omega), ?_⟩⟩) (fun c => ⟨fun _ => out j h1 h2 (by rw [er]; exact rn_e (fun z => c z.2)), fun z => absurd rfl z⟩)
      unfold w_X8_withLetter w_X8_withLetter_0
      intro x ex
      rw [← nI_succ] at ex
      subst ex
      have := ih (j + 1) (by omega) (by omega) (by omega) (by rw [er]; exact rn_s (by omega) c)
      rw [show j + 1 - i = (j - i) + 1 from by omega] at this
      unfold cdF at this
      rw [show i + (j - i) = j from by omega] at this
      exact this
  have := key (n - i) i rfl (Nat.le_refl _) (by omega) rfl
  rw [Nat.sub_self] at this
  exact this
theorem c_cutInt {h : hp} {f : Nat → Int32} {n i m : Nat} {Q : Int32 → hp → Prop} (a : aTape 1 h n f) (e : gI h 3 4 = nI m) (hm : m < 401) (hi : i < n) (hq : Q (nI (rn isDg f n i)) (tkPut h m (cK (if rn isDg f n i - i ≤ 4 then 2 else 3)) i (dgF' f i (rn isDg f n i - i)).toInt64)) : w_X8_cutInt 1 2000 h (nI n) (nI i) Q := by
  unfold w_X8_cutInt w_X8_cutInt_0 w_X8_cutInt_6
  have hn := a.2.1
  intro X hX
  have out : ∀ j, i ≤ j → j ≤ n → rn isDg f n i = j → w_X8_cutInt_43 1 2000 Q (nI i) (nI j) (dgF' f i (j - i)) h := fun j h1 h2 ej => by
    rw [ej] at hq
    unfold w_X8_cutInt_43 w_X8_cutInt_57
    rw [nI_sub h1 (by omega)]
    refine ⟨fun c => ?_, fun c => ?_⟩
    · have c' : j - i ≤ 4 := (nI_leI (a := j - i) (b := 4) (by omega) (by omega)).mp c
      rw [if_pos c'] at hq
      exact c_tkAdd e hm hq
    · have c' : ¬ j - i ≤ 4 := fun q => c ((nI_leI (a := j - i) (b := 4) (by omega) (by omega)).mpr q)
      rw [if_neg c'] at hq
      exact c_tkAdd e hm hq
  have key : ∀ q j, n - j = q → i ≤ j → j ≤ n → rn isDg f n i = rn isDg f n j → X (nI j, dgF' f i (j - i)) := by
    intro q
    induction q with
    | zero =>
      intro j hj h1 h2 er
      apply hX
      refine ⟨fun _ => out j h1 h2 (by rw [er]; exact rn_e (fun z => by omega)), fun c => absurd (nI_le (by omega) (by omega)) c⟩
    | succ q ih =>
      intro j hj h1 h2 er
      apply hX
      refine ⟨fun c => absurd c (nI_ge (by omega) (by omega)), fun _ => ⟨in_n (by omega) (by omega), ?_⟩⟩
      show w_X8_isDigit (gI h 1 (ix (nI j))) _
      rw [ix_n (by omega), a.2.2 j (by omega)]
      refine c_isDigit (fun c => ⟨fun z => absurd z (by decide), fun _ => ⟨in_n (by omega) (by omega), fun y ey x ex => ?_⟩⟩) (fun c => ⟨fun _ => out j h1 h2 (by rw [er]; exact rn_e (fun z => c z.2)), fun z => absurd rfl z⟩)
      rw [← nI_succ] at ex
      subst ex ey
      have := ih (j + 1) (by omega) (by omega) (by omega) (by rw [er]; exact rn_s (by omega) c)
      rw [show j + 1 - i = (j - i) + 1 from by omega] at this
      unfold dgF' at this
      rw [show i + (j - i) = j from by omega] at this
      exact this
  have := key (n - i) i rfl (Nat.le_refl _) (by omega) rfl
  rw [Nat.sub_self] at this
  exact this
theorem tEnd_le {f : Nat → Int32} {n i : Nat} (hi : i < n) : i < tEnd f n i ∧ tEnd f n i ≤ n := by
  unfold tEnd
  by_cases c : isLt (f i) = true
  · rw [if_pos c, rn_s hi c]
    have := rn_spec isLt f n _ (i + 1) rfl
    exact ⟨by have := this.1; omega, this.2.1 (by omega)⟩
  · rw [if_neg c]
    by_cases d : isDg (f i) = true
    · rw [if_pos d, rn_s hi d]
      have := rn_spec isDg f n _ (i + 1) rfl
      exact ⟨by have := this.1; omega, this.2.1 (by omega)⟩
    · rw [if_neg d]; omega
theorem c_cutOne {h : hp} {f : Nat → Int32} {n i m : Nat} {Q : Int32 → hp → Prop} (a : aTape 1 h n f) (hw : ∀ i, i < 17 → gL h 7 i = wrd i) (e : gI h 3 4 = nI m) (hm : m < 401) (hi : i < n) (hq : Q (nI (tEnd f n i)) (tkPut h m (cK (tkK f n i)) i (tkV f n i))) : w_X8_cutOne 1 2000 h (nI n) (nI i) Q := by
  unfold w_X8_cutOne w_X8_cutOne_0
  have hn := a.2.1
  refine ⟨in_n (by omega) (by omega), fun y ey => ?_⟩
  rw [ix_n (by omega), a.2.2 i hi] at ey
  subst ey
  unfold tEnd tkK tkV at hq
  refine c_isLetter (fun c => ⟨fun z => absurd z (by decide), fun _ => ?_⟩) (fun c => ⟨fun _ => ?_, fun z => absurd rfl z⟩)
  · rw [if_pos c, if_pos c, if_pos c] at hq
    exact c_cutName a hw e hm hi hq
  · rw [if_neg c, if_neg c, if_neg c] at hq
    refine c_isDigit (fun d => ⟨fun z => absurd z (by decide), fun _ => ?_⟩) (fun d => ⟨fun _ => ?_, fun z => absurd rfl z⟩)
    · rw [if_pos d, if_pos d, if_pos d] at hq
      exact c_cutInt a e hm hi hq
    · rw [if_neg d, if_neg d, if_neg d] at hq
      refine c_isSign (fun g => ⟨fun z => absurd z (by decide), fun _ => ?_⟩) (fun g => ⟨fun _ => ?_, fun z => absurd rfl z⟩)
      · rw [cK_sg g, nI_succ] at hq
        exact c_tkAdd e hm hq
      · rw [g, nI_succ] at hq
        exact c_tkAdd e hm hq
def entC (h : hp) (f : Nat → Int32) (n m : Nat) : Prop := ∀ k, k < m → pos f n k < n ∧ gI h 4 k = cK (tkK f n (pos f n k)) ∧ gI h 5 k = nI (pos f n k) ∧ gL h 6 k = tkV f n (pos f n k)
theorem tkPut_4 {h : hp} {m i j : Nat} {k : Int32} {v : Int64} : gI (tkPut h m k i v) 4 j = if j = m then k else gI h 4 j := by
  simp [tkPut, gI_sI, gI_sL]
theorem tkPut_5 {h : hp} {m i j : Nat} {k : Int32} {v : Int64} : gI (tkPut h m k i v) 5 j = if j = m then nI i else gI h 5 j := by
  simp [tkPut, gI_sI, gI_sL]
theorem tkPut_6 {h : hp} {m i j : Nat} {k : Int32} {v : Int64} : gL (tkPut h m k i v) 6 j = if j = m then v else gL h 6 j := by
  simp [tkPut, gL_sI, gL_sL]
theorem entC_put {h : hp} {f : Nat → Int32} {n m : Nat} (a : entC h f n m) (hp1 : pos f n m < n) : entC (tkPut h m (cK (tkK f n (pos f n m))) (pos f n m) (tkV f n (pos f n m))) f n (m + 1) := fun k hk => by
  rw [tkPut_4, tkPut_5, tkPut_6]
  by_cases c : k = m
  · subst c
    rw [if_pos rfl, if_pos rfl, if_pos rfl]
    exact ⟨hp1, rfl, rfl, rfl⟩
  · rw [if_neg c, if_neg c, if_neg c]
    exact a k (by omega)
theorem tkPut_e {h : hp} {m i : Nat} {k : Int32} {v : Int64} : eqE cutS h (tkPut h m k i v) := eqE_sI (eqE_sL (eqE_sI (eqE_sI (eqE_refl h) (Or.inl rfl)) (Or.inr (Or.inl rfl))) (Or.inr (Or.inr (Or.inl rfl)))) (Or.inr (Or.inr (Or.inr ⟨rfl, rfl⟩)))
theorem aTape_e {d : Nat} {h h1 : hp} {n : Nat} {f : Nat → Int32} {P : Nat → Nat → Prop} (e : eqE P h h1) (n0 : ¬ P 0 d) (n1 : ∀ j, ¬ P 1 j) (a : aTape d h n f) : aTape d h1 n f := ⟨by rw [eqE_I e n0]; exact a.1, a.2.1, fun k hk => by rw [eqE_I e (n1 k)]; exact a.2.2 k hk⟩
theorem c_cut {h : hp} {f : Nat → Int32} {n : Nat} {Q : hp → Prop} (a : aTape 1 h n f) (hw : ∀ i, i < 17 → gL h 7 i = wrd i) (hq : ∀ h1 c, eqE cutS h h1 → cTk h1 f n c → Q h1) : w_X8_cut 1 2000 h (nI n) Q := by
  unfold w_X8_cut w_X8_cut_0
  intro h1 e1
  have hn := a.2.1
  unfold w_X8_cut_10
  intro X hX
  have out : ∀ m h2, m ≤ 401 → eqE cutS h h2 → gI h2 3 4 = nI m → entC h2 f n m → (m ≤ 400 → n ≤ pos f n m) → w_X8_cut_61 1 2000 Q (nI n) h2 := fun m h2 hm ee em ent hp1 => by
    unfold w_X8_cut_61
    rw [em]
    refine ⟨in_n (by omega) (by omega), fun h3 e3 => ?_⟩
    rw [ix_n (by omega)] at e3
    subst e3
    rw [gI_o _ _ (by decide), em]
    refine ⟨in_n (by omega) (by omega), fun h4 e4 => ?_⟩
    rw [ix_n (by omega)] at e4
    subst e4
    refine hq _ m (eqE_sI (eqE_sI ee (Or.inl rfl)) (Or.inr (Or.inl rfl))) ⟨hm, fun k hk => ?_, hp1, ?_, ?_⟩
    · obtain ⟨a1, a2, a3, a4⟩ := ent k hk
      rw [gI_o _ _ (by decide), gI_k _ _ (by omega), gI_k _ _ (by omega), gI_o _ _ (by decide), gL_sI, gL_sI]
      exact ⟨a1, a2, a3, a4⟩
    · rw [gI_o _ _ (by decide), gI_at]
    · rw [gI_at]
  have key : ∀ q b t m h2, n - t = q → t ≤ n → b ≤ n → m ≤ 401 → eqE cutS h h2 → gI h2 3 4 = nI m → entC h2 f n m → rn isBk f n (max t b) = pos f n m → X (nI b, nI t, h2) := by
    intro q
    induction q with
    | zero =>
      intro b t m h2 hq1 ht hb hm ee em ent hp1
      apply hX
      refine ⟨fun _ => out m h2 hm ee em ent (fun _ => ?_), fun c => absurd (nI_le (by omega) (by omega)) c⟩
      have := (rn_spec isBk f n _ (max t b) rfl).1
      omega
    | succ q ih =>
      intro b t m h2 hq1 ht hb hm ee em ent hp1
      apply hX
      refine ⟨fun c => absurd c (nI_ge (by omega) (by omega)), fun _ => ⟨fun c => ?_, fun c => ⟨in_n (by omega) (by omega), fun y ey => ?_⟩⟩⟩
      · have c : (401 : Int32) ≤ gI h2 3 4 := c
        rw [em] at c
        have c' : 401 ≤ m := (nI_leI (a := 401) (b := m) (by omega) (by omega)).mp c
        exact out m h2 hm ee em ent (fun z => by omega)
      · have c : ¬ (401 : Int32) ≤ gI h2 3 4 := c
        rw [em] at c
        have hm' : m < 401 := by
          refine Nat.lt_of_not_le (fun z => c ?_)
          exact (nI_leI (a := 401) (b := m) (by omega) (by omega)).mpr z
        have a2 : aTape 1 h2 n f := aTape_e ee (by unfold cutS; omega) (by unfold cutS; omega) a
        have ey : y = f t := by rw [ey]; show gI h2 1 (ix (nI t)) = _; rw [ix_n (by omega), a2.2.2 t (by omega)]
        subst ey
        refine ⟨fun c2 x ex => ?_, fun c2 => c_isBlank (fun bl => ⟨fun _ x ex => ?_, fun z => absurd z (by decide)⟩) (fun bl => ⟨fun z => absurd rfl z, fun _ => ?_⟩)⟩
        · have c2 : t < b := by
            have c2 : nI t < nI b := c2
            refine Nat.lt_of_not_le (fun z => ?_)
            exact absurd c2 (Int32.not_lt.mpr (nI_le z (by omega)))
          rw [← nI_succ] at ex
          subst ex
          exact ih b (t + 1) m h2 (by omega) (by omega) hb hm ee em ent (by rw [show max (t + 1) b = max t b from by omega]; exact hp1)
        · have c2 : b ≤ t := by
            have c2 : ¬ nI t < nI b := c2
            refine Nat.le_of_not_lt (fun z => c2 (nI_lt z (by omega)))
          rw [← nI_succ] at ex
          subst ex
          refine ih b (t + 1) m h2 (by omega) (by omega) hb hm ee em ent ?_
          rw [show max (t + 1) b = t + 1 from by omega, ← rn_s (by omega) bl, ← hp1, show max t b = t from by omega]
        · have c2 : b ≤ t := by
            have c2 : ¬ nI t < nI b := c2
            refine Nat.le_of_not_lt (fun z => c2 (nI_lt z (by omega)))
          have ept : pos f n m = t := by
            rw [← hp1, show max t b = t from by omega]
            exact rn_e (fun z => bl z.2)
          have ht2 := tEnd_le (f := f) (n := n) (i := t) (by omega)
          refine c_cutOne a2 (fun i hi => by rw [eqE_L ee (by unfold cutS; omega)]; exact hw i hi) em hm' (by omega) (fun x ex => ?_)
          rw [← nI_succ] at ex
          subst ex
          refine ih (tEnd f n t) (t + 1) (m + 1) _ (by omega) (by omega) ht2.2 (by omega) (eqE_trans ee tkPut_e) (gI_at _ _ _ _) ?_ ?_
          · rw [← ept]
            exact entC_put ent (by omega)
          · rw [show max (t + 1) (tEnd f n t) = tEnd f n t from by omega]
            show _ = rn isBk f n (tEnd f n (pos f n m))
            rw [ept]
  subst e1
  exact key n 0 0 0 _ rfl (by omega) (by omega) (by omega) (eqE_sI (eqE_refl h) (Or.inr (Or.inr (Or.inr ⟨rfl, rfl⟩)))) (gI_at _ _ _ _) (fun k hk => by omega) rfl
/-! the reference cuts -/
def aText (h : hp) (n : Nat) (f : Nat → Int32) : Prop := gI h 0 4 = nI n ∧ n ≤ 2000 ∧ ∀ k, k < n → gI h 2 k = f k
theorem z255 {z : Int32} (h1 : -128 ≤ z.toInt) (h2 : z.toInt ≤ 127) (h : 0 ≤ z.toInt) : z &&& 255 = z := t_eq.mpr (by rw [and255 h1 h2, if_neg (by omega)])
theorem n255 {z v : Int32} (h1 : -128 ≤ z.toInt) (h2 : z.toInt ≤ 127) (hv : 0 ≤ v.toInt) (hv2 : v.toInt ≤ 127) : z &&& 255 = v ↔ z = v := by
  rw [t_eq, t_eq (x := z), and255 h1 h2]
  by_cases c : z.toInt < 0
  · rw [if_pos c]; omega
  · rw [if_neg c]
theorem lt255 {z : Int32} (h1 : -128 ≤ z.toInt) (h2 : z.toInt ≤ 127) : isLt (z &&& 255) = true ↔ isLt z = true := by
  rw [isLt_t, isLt_t, and255 h1 h2]
  by_cases c : z.toInt < 0
  · rw [if_pos c]; omega
  · rw [if_neg c]
theorem dg255 {z : Int32} (h1 : -128 ≤ z.toInt) (h2 : z.toInt ≤ 127) : isDg (z &&& 255) = true ↔ isDg z = true := by
  rw [isDg_t, isDg_t, and255 h1 h2]
  by_cases c : z.toInt < 0
  · rw [if_pos c]; omega
  · rw [if_neg c]
theorem sg255 {z : Int32} (h1 : -128 ≤ z.toInt) (h2 : z.toInt ≤ 127) : sgF (z &&& 255) = sgF z := by
  unfold sgF
  simp only [n255 h1 h2 (v := 59) (by decide) (by decide), n255 h1 h2 (v := 61) (by decide) (by decide), n255 h1 h2 (v := 40) (by decide) (by decide), n255 h1 h2 (v := 41) (by decide) (by decide), n255 h1 h2 (v := 43) (by decide) (by decide), n255 h1 h2 (v := 45) (by decide) (by decide), n255 h1 h2 (v := 42) (by decide) (by decide), n255 h1 h2 (v := 60) (by decide) (by decide), n255 h1 h2 (v := 47) (by decide) (by decide)]
theorem m_byteAt {h : hp} {n i : Nat} {f : Nat → Int32} {Q : Int32 → Prop} (a : aText h n f) (hi : i < 2147483648) (hq1 : i < n → Q (f i &&& 255)) (hq0 : n ≤ i → Q 0) : w_X12_byteAt h (nI i) Q := by
  unfold w_X12_byteAt w_X12_byteAt_0
  have hn := a.2.1
  rw [a.1]
  refine ⟨fun c => hq0 ((nI_leI (by omega) (by omega)).mp c), fun c => ?_⟩
  have hi : i < n := Nat.lt_of_not_le (fun z => c ((nI_leI (by omega) (by omega)).mpr z))
  refine ⟨in_n (by omega) (by omega), ?_⟩
  rw [ix_n (by omega), a.2.2 i hi]
  exact hq1 hi
def mkPut (h : hp) (m : Nat) (k : Int32) (i : Nat) (v : Int32) (w : Int64) : hp := sI (sL (sI (sI (sI h 3 m k) 4 m (nI i)) 5 m v) 6 m w) 0 10 (nI (m + 1))
theorem m_token {h : hp} {m i : Nat} {k v : Int32} {w : Int64} {Q : hp → Prop} (e : gI h 0 10 = nI m) (hm : m < 403) (hq : Q (mkPut h m k i v w)) : w_X12_token h k (nI i) v w Q := by
  unfold w_X12_token w_X12_token_0
  rw [e]
  refine ⟨in_n (by omega) (by omega), fun h2 e2 => ?_⟩
  rw [ix_n (by omega)] at e2
  subst e2
  rw [gI_o _ _ (by decide), e]
  refine ⟨in_n (by omega) (by omega), fun h3 e3 => ?_⟩
  rw [ix_n (by omega)] at e3
  subst e3
  rw [gI_o _ _ (by decide), gI_o _ _ (by decide), e]
  refine ⟨in_n (by omega) (by omega), fun h4 e4 => ?_⟩
  rw [ix_n (by omega)] at e4
  subst e4
  rw [gI_o _ _ (by decide), gI_o _ _ (by decide), gI_o _ _ (by decide), e]
  refine ⟨in_n (by omega) (by omega), fun h5 e5 h6 e6 => ?_⟩
  rw [ix_n (by omega)] at e5
  subst e5
  rw [gI_sL, gI_o _ _ (by decide), gI_o _ _ (by decide), gI_o _ _ (by decide), e, ← nI_succ] at e6
  subst e6
  exact hq
theorem mkPut_3 {h : hp} {m i j : Nat} {k v : Int32} {w : Int64} : gI (mkPut h m k i v w) 3 j = if j = m then k else gI h 3 j := by
  simp [mkPut, gI_sI, gI_sL]
theorem mkPut_4 {h : hp} {m i j : Nat} {k v : Int32} {w : Int64} : gI (mkPut h m k i v w) 4 j = if j = m then nI i else gI h 4 j := by
  simp [mkPut, gI_sI, gI_sL]
theorem mkPut_5 {h : hp} {m i j : Nat} {k v : Int32} {w : Int64} : gI (mkPut h m k i v w) 5 j = if j = m then v else gI h 5 j := by
  simp [mkPut, gI_sI, gI_sL]
theorem mkPut_6 {h : hp} {m i j : Nat} {k v : Int32} {w : Int64} : gL (mkPut h m k i v w) 6 j = if j = m then w else gL h 6 j := by
  simp [mkPut, gL_sI, gL_sL]
def cutM (a j : Nat) : Prop := a = 3 ∨ a = 4 ∨ a = 5 ∨ a = 6 ∨ (a = 0 ∧ j = 10)
theorem mkPut_e {h : hp} {m i : Nat} {k v : Int32} {w : Int64} : eqE cutM h (mkPut h m k i v w) := eqE_sI (eqE_sL (eqE_sI (eqE_sI (eqE_sI (eqE_refl h) (by unfold cutM; omega)) (by unfold cutM; omega)) (by unfold cutM; omega)) (by unfold cutM; omega)) (by unfold cutM; omega)
theorem m_sign {h : hp} {m i : Nat} {x y : Int32} {Q : Int32 → hp → Prop} (e : gI h 0 10 = nI m) (hm : m < 403) (hq : Q 1 (mkPut h m (nI (sgF x)) i 0 0)) : w_X12_sign h (nI i) x y Q := by
  have fin : ∀ k : Int32, k = nI (sgF x) → w_X12_sign_95 Q (nI i) k h := fun k ek => by
    subst ek
    unfold w_X12_sign_95
    exact m_token e hm hq
  have f85 : ∀ k : Int32, (¬ x = 60 → k = nI (sgF x)) → w_X12_sign_85 Q (nI i) x k h := fun k ek => by
    unfold w_X12_sign_85
    refine ⟨fun c => fin _ (ek c), fun c => fin _ ?_⟩
    subst c; decide
  have f75 : ∀ k : Int32, (¬ x = 60 → ¬ x = 47 → k = nI (sgF x)) → w_X12_sign_75 Q (nI i) x k h := fun k ek => by
    unfold w_X12_sign_75
    refine ⟨fun c => f85 _ (fun d => ek d c), fun c => f85 _ (fun _ => ?_)⟩
    subst c; decide
  have f65 : ∀ k : Int32, (¬ x = 60 → ¬ x = 47 → ¬ x = 42 → k = nI (sgF x)) → w_X12_sign_65 Q (nI i) x k h := fun k ek => by
    unfold w_X12_sign_65
    refine ⟨fun c => f75 _ (fun d d2 => ek d d2 c), fun c => f75 _ (fun _ _ => ?_)⟩
    subst c; decide
  have f55 : ∀ k : Int32, (¬ x = 60 → ¬ x = 47 → ¬ x = 42 → ¬ x = 45 → k = nI (sgF x)) → w_X12_sign_55 Q (nI i) x k h := fun k ek => by
    unfold w_X12_sign_55
    refine ⟨fun c => f65 _ (fun d d2 d3 => ek d d2 d3 c), fun c => f65 _ (fun _ _ _ => ?_)⟩
    subst c; decide
  have f43 : ∀ k : Int32, (¬ x = 60 → ¬ x = 47 → ¬ x = 42 → ¬ x = 45 → ¬ x = 43 → k = nI (sgF x)) → w_X12_sign_43 Q (nI i) x h k := fun k ek => by
    unfold w_X12_sign_43
    refine ⟨fun c => f55 _ (fun d d2 d3 d4 => ek d d2 d3 d4 c), fun c => f55 _ (fun _ _ _ _ => ?_)⟩
    subst c; decide
  unfold w_X12_sign w_X12_sign_0
  refine ⟨fun n59 => ⟨fun n61 => ⟨fun n40 => ⟨fun n41 => f43 _ (fun n60 n47 n42 n45 n43 => ?_), fun c => f43 _ (fun _ _ _ _ _ => ?_)⟩, fun c => f43 _ (fun _ _ _ _ _ => ?_)⟩, fun c => f43 _ (fun _ _ _ _ _ => ?_)⟩, fun c => f43 _ (fun _ _ _ _ _ => ?_)⟩
  · unfold sgF
    rw [if_neg n59, if_neg n61, if_neg n40, if_neg n41, if_neg n43, if_neg n45, if_neg n42, if_neg n60, if_neg n47]
    rfl
  all_goals (subst c; decide)
theorem wrd_inj {i j : Nat} (hi : i < 17) (hj : j < 17) (e : wrd i = wrd j) : i = j := by
  have : ∀ i, i < 17 → ∀ j, j < 17 → wrd i = wrd j → i = j := by decide +kernel
  exact this i hi j hj e
theorem kwF_spec (v : Int64) : ∀ m, m ≤ 17 → (∃ i, i < 17 ∧ wrd i = v ∧ kwF v m = 20 + i) ∨ ((∀ i, 17 - m ≤ i → i < 17 → ¬ wrd i = v) ∧ kwF v m = 1)
  | 0, _ => Or.inr ⟨fun i h1 h2 => by omega, rfl⟩
  | m + 1, hm => by
    unfold kwF
    by_cases c : wrd (16 - m) = v
    · rw [if_pos c]
      exact Or.inl ⟨16 - m, by omega, c, rfl⟩
    · rw [if_neg c]
      rcases kwF_spec v m (by omega) with q | q
      · exact Or.inl q
      · refine Or.inr ⟨fun i h1 h2 => ?_, q.2⟩
        by_cases e : i = 16 - m
        · subst e; exact c
        · exact q.1 i (by omega) h2
theorem kwF_at {v : Int64} {i : Nat} (hi : i < 17) (e : wrd i = v) : kwF v 17 = 20 + i := by
  rcases kwF_spec v 17 (Nat.le_refl _) with ⟨j, hj, ej, ek⟩ | q
  · rw [ek, wrd_inj hi hj (by rw [e, ej])]
  · exact absurd e (q.1 i (by omega) hi)
theorem kwF_no {v : Int64} (n : ∀ i, i < 17 → ¬ wrd i = v) : kwF v 17 = 1 := by
  rcases kwF_spec v 17 (Nat.le_refl _) with ⟨j, hj, ej, ek⟩ | q
  · exact absurd ej (n j hj)
  · exact q.2
theorem cdF_in {f : Nat → Int32} {i : Nat} : ∀ c, c ≤ 8 → (∀ k, i ≤ k → k < i + c → isLt (f k) = true) → 0 ≤ (cdF f i c).toInt ∧ (cdF f i c).toInt < 27 ^ c ∧ (1 ≤ c → 27 ^ (c - 1) ≤ (cdF f i c).toInt)
  | 0, _, _ => ⟨show (0 : Int) ≤ (0 : Int64).toInt by decide, show (0 : Int64).toInt < (1 : Int) by decide, fun q => by omega⟩
  | c + 1, hc, hl => by
    obtain ⟨b1, b2, b3⟩ := cdF_in c (by omega) (fun k h1 h2 => hl k h1 (by omega))
    have hz := isLt_t.mp (hl (i + c) (by omega) (by omega))
    have e97 : (97 : Int32).toInt = 97 := rfl
    have e1 : (1 : Int32).toInt = 1 := rfl
    have e27 : (27 : Int64).toInt = 27 := rfl
    have s1 : (f (i + c) - 97).toInt = (f (i + c)).toInt - 97 := by rw [t_sub (by rw [e97]; omega) (by rw [e97]; omega), e97]
    have s2 : (f (i + c) - 97 + 1).toInt = (f (i + c)).toInt - 96 := by rw [t_add (by rw [s1, e1]; omega) (by rw [s1, e1]; omega), s1, e1]; omega
    have p8 : (27 : Int) ^ c ≤ 27 ^ 7 := by
      have : c ≤ 7 := by omega
      have := Nat.pow_le_pow_right (n := 27) (by decide) this
      exact_mod_cast this
    have p7 : (27 : Int) ^ 7 = 10460353203 := by decide
    have m1' : (cdF f i c * 27).toInt = (cdF f i c).toInt * 27 := by rw [tL_mul (by rw [e27]; omega) (by rw [e27]; omega), e27]
    have m2 : (cdF f i (c + 1)).toInt = (cdF f i c).toInt * 27 + ((f (i + c)).toInt - 96) := by
      show (cdF f i c * 27 + (f (i + c) - 97 + 1).toInt64).toInt = _
      rw [tL_add (by rw [m1', tL_int, s2]; omega) (by rw [m1', tL_int, s2]; omega), m1', tL_int, s2]
    rw [m2]
    have pc : (27 : Int) ^ (c + 1) = 27 ^ c * 27 := Int.pow_succ 27 c
    refine ⟨by omega, by omega, fun _ => ?_⟩
    rw [show c + 1 - 1 = c from rfl]
    rcases Nat.eq_zero_or_pos c with q | q
    · subst q
      rw [show (27 : Int) ^ 0 = 1 from rfl]
      omega
    · have b3' := b3 q
      have pc' : (27 : Int) ^ c = 27 ^ (c - 1) * 27 := by
        have := Int.pow_succ 27 (c - 1)
        rw [show (c - 1).succ = c from by omega] at this
        exact this
      omega
theorem kw_8 {f : Nat → Int32} {i : Nat} (hl : ∀ k, i ≤ k → k < i + 8 → isLt (f k) = true) : kwF (cdF f i 8) 17 = 1 := by
  have b := (cdF_in 8 (Nat.le_refl _) hl).2.2 (by decide)
  have p7 : (27 : Int) ^ (8 - 1) = 10460353203 := by decide
  refine kwF_no (fun j hj e => ?_)
  have : ∀ j, j < 17 → (wrd j).toInt < 10460353203 := by decide +kernel
  have := this j hj
  rw [e] at this
  omega
theorem appends_eq (x : Int64) (z : Int32) : (27 * x) + ((z - 97) + 1).toInt64 = x * 27 + ((z - 97) + 1).toInt64 := by rw [Int64.mul_comm]
theorem m_wordLoop {h : hp} {v : Int64} {x1 x3 : Int32} {Q : hp → Prop} {X7 : Int32 × hp → Prop} (hw : ∀ i, i < 17 → gL h 7 i = wrd i) (hq : w_X12_cut_179 Q X7 x1 x3 v (nI (kwF v 17)) h) : w_X12_cut_146 Q X7 x1 x3 v h 1 0 := by
  unfold w_X12_cut_146
  intro X hX
  have key : ∀ m j, 17 - j = m → j ≤ 17 → ∀ k : Int32, ((∃ i, i < j ∧ wrd i = v ∧ k = nI (20 + i)) ∨ ((∀ i, i < j → ¬ wrd i = v) ∧ k = 1)) → X (k, nI j) := by
    intro m
    induction m with
    | zero =>
      intro j hj hj2 k hk
      apply hX
      refine ⟨fun _ => ?_, fun c => absurd (nI_le (a := 17) (b := j) (by omega) (by omega)) c⟩
      show w_X12_cut_179 Q X7 x1 x3 v k h
      rcases hk with ⟨i, hi, ei, ek⟩ | ⟨n, ek⟩
      · rw [ek, ← kwF_at (by omega) ei]; exact hq
      · rw [ek, show (1 : Int32) = nI (kwF v 17) from by rw [kwF_no (fun i hi => n i (by omega))]; rfl]; exact hq
    | succ m ih =>
      intro j hj hj2 k hk
      apply hX
      refine ⟨fun c => absurd c (nI_ge (a := j) (b := 17) (by omega) (by omega)), fun _ => ⟨in_n (by omega) (by omega), fun c x ex => ?_, fun c y ey x ex => ?_⟩⟩
      · have c : ¬ gL h 7 (ix (nI j)) = v := c
        rw [ix_n (by omega), hw _ (by omega)] at c
        rw [← nI_succ] at ex
        subst ex
        refine ih (j + 1) (by clear hk; omega) (by clear hk; omega) k ?_
        rcases hk with ⟨i, hi, ei, ek⟩ | ⟨n, ek⟩
        · exact Or.inl ⟨i, Nat.lt_succ_of_lt hi, ei, ek⟩
        · refine Or.inr ⟨fun i hi => ?_, ek⟩
          by_cases e : i = j
          · subst e; exact c
          · exact n i (by omega)
      · have c : gL h 7 (ix (nI j)) = v := c
        rw [ix_n (by omega), hw _ (by omega)] at c
        rw [← nI_succ] at ex
        subst ex
        have ey : y = nI (20 + j) := by rw [ey]; exact nI_add 20 j
        subst ey
        exact ih (j + 1) (by clear hk; omega) (by clear hk; omega) _ (Or.inl ⟨j, Nat.lt_succ_self j, c, rfl⟩)
  exact key 17 0 rfl (by omega) 1 (Or.inr ⟨fun i hi => by omega, rfl⟩)
/-- what the reference writes for the token at i -/
def isTk (f : Nat → Int32) (n i : Nat) (k v : Int32) (w : Int64) : Prop := k = nI (tkK f n i) ∧ (tkK f n i = 2 → v = (tkV f n i).toInt32) ∧ (tkK f n i = 1 → w = tkV f n i)
theorem sgF_ge (z : Int32) : 3 ≤ sgF z := by
  unfold sgF
  repeat' split
  all_goals decide
theorem kwF_ne2 (v : Int64) : ¬ kwF v 17 = 2 := by
  rcases kwF_spec v 17 (Nat.le_refl _) with ⟨j, hj, ej, ek⟩ | q
  · omega
  · omega
theorem m_cutName {h : hp} {f : Nat → Int32} {n i m : Nat} {Q : hp → Prop} {X7 : Int32 × hp → Prop} (a : aText h n f) (hb : isBy f n) (hw : ∀ i, i < 17 → gL h 7 i = wrd i) (e : gI h 0 10 = nI m) (hm : m < 403) (hi : i < n) (hl : isLt (f i) = true) (hq : ∀ k v w, isTk f n i k v w → X7 (nI (tEnd f n i), mkPut h m k i v w)) : w_X12_cut_85 Q X7 (nI i) h 0 0 := by
  unfold w_X12_cut_85
  have hn := a.2.1
  obtain ⟨r1, r2, r3, r4⟩ := rn_spec isLt f n _ i rfl
  have r2 := r2 (by omega)
  have eE : tEnd f n i = rn isLt f n i := by unfold tEnd; rw [if_pos hl]
  have fin : ∀ k c : Nat, ∀ w : Int64, c = rn isLt f n i - i → isTk f n i (nI k) 0 w → w_X12_cut_179 Q X7 (nI i) (nI c) w (nI k) h := fun k c w ec tk => by
    unfold w_X12_cut_179
    refine m_token e hm (fun x ex => ?_)
    rw [nI_add, ec, show i + (rn isLt f n i - i) = rn isLt f n i from by omega, ← eE] at ex
    subst ex
    exact hq _ _ _ tk
  intro X hX
  have out : ∀ c, c = rn isLt f n i - i → ((nI c ≤ 8 → w_X12_cut_135 Q X7 (nI i) (nI c) (cdF f i (min c 8)) h 1) ∧ (¬ nI c ≤ 8 → w_X12_cut_135 Q X7 (nI i) (nI c) (cdF f i (min c 8)) h 3)) := fun c ec => by
    have e8 : nI c ≤ 8 ↔ c ≤ 8 := nI_leI (a := c) (b := 8) (by omega) (by omega)
    have e7 : (7 : Int32) < nI c ↔ 7 < c := by rw [t_lt, n_toInt (by omega), show (7 : Int32).toInt = 7 from rfl]; omega
    have tkc : tkK f n i = if c ≤ 8 then kwF (cdF f i c) 17 else 3 := by unfold tkK; rw [if_pos hl, ← ec]
    have tvc : tkV f n i = cdF f i c := by unfold tkV; rw [if_pos hl, ← ec]
    unfold w_X12_cut_135
    rw [e8, e7]
    refine ⟨fun c8 => ⟨fun c7 => ?_, fun c7 => ?_⟩, fun c8 => ⟨fun c7 => ?_, fun c7 => absurd (by omega) c7⟩⟩
    · have c88 : c = 8 := by omega
      rw [Nat.min_eq_left c8]
      refine fin 1 c _ ec ⟨?_, fun q => ?_, fun _ => tvc.symm⟩
      · rw [tkc, if_pos c8, c88, kw_8 (fun k h1 h2 => (r3 k h1 (by omega)).2)]
      · rw [tkc, if_pos c8] at q; exact absurd q (kwF_ne2 _)
    · rw [Nat.min_eq_left c8]
      refine m_wordLoop hw (fin _ c _ ec ⟨?_, fun q => ?_, fun _ => tvc.symm⟩)
      · rw [tkc, if_pos c8]
      · rw [tkc, if_pos c8] at q; exact absurd q (kwF_ne2 _)
    · refine fin 3 c _ ec ⟨?_, fun q => ?_, fun q => ?_⟩
      · rw [tkc, if_neg c8]
      · rw [tkc, if_neg c8] at q; omega
      · rw [tkc, if_neg c8] at q; omega
  have key : ∀ q c, rn isLt f n i - i - c = q → c ≤ rn isLt f n i - i → X (nI c, cdF f i (min c 8)) := by
    intro q
    induction q with
    | zero =>
      intro c hc1 hc2
      have ec : c = rn isLt f n i - i := by omega
      apply hX
      show w_X12_byteAt h (nI i + nI c) _
      rw [nI_add]
      have er : i + c = rn isLt f n i := by omega
      refine m_byteAt a (by omega) (fun hlt => m_isLetter (fun z => ?_) (fun z => ⟨fun _ => out c ec, fun z => absurd rfl z⟩)) (fun hge => m_isLetter (fun z => absurd z (by decide)) (fun z => ⟨fun _ => out c ec, fun z => absurd rfl z⟩))
      have b := hb (i + c) hlt
      rw [lt255 b.1 b.2, er] at z
      exact absurd ⟨by omega, z⟩ r4
    | succ q ih =>
      intro c hc1 hc2
      have ht := r3 (i + c) (by omega) (by omega)
      have b := hb (i + c) ht.1
      have z0 : f (i + c) &&& 255 = f (i + c) := z255 b.1 b.2 (by have := isLt_t.mp ht.2; omega)
      apply hX
      show w_X12_byteAt h (nI i + nI c) _
      rw [nI_add]
      refine m_byteAt a (by omega) (fun hlt => ?_) (fun hge => by omega)
      rw [z0]
      refine m_isLetter (fun z => ⟨fun z => absurd z (by decide), fun _ => ⟨fun c8 x ex => ?_, fun c8 => ?_⟩⟩) (fun z => absurd ht.2 z)
      · have c8 : 8 ≤ c := (nI_leI (a := 8) (b := c) (by omega) (by omega)).mp c8
        have ex : x = nI (c + 1) := by rw [nI_succ]; exact ex
        subst ex
        have := ih (c + 1) (by omega) (by omega)
        rw [show min (c + 1) 8 = min c 8 from by omega] at this
        exact this
      · have c8 : c < 8 := Nat.lt_of_not_le (fun z => c8 ((nI_leI (a := 8) (b := c) (by omega) (by omega)).mpr z))
        refine m_byteAt a (by omega) (fun hlt => ?_) (fun hge => by omega)
        rw [z0]
        unfold w_X12_appends w_X12_appends_0
        refine ⟨fun _ x ex => ?_, fun z => ?_⟩
        · have ex : x = nI (c + 1) := by rw [nI_succ]; exact ex
          subst ex
          have := ih (c + 1) (by omega) (by omega)
          rw [show min (c + 1) 8 = c + 1 from by omega] at this
          rw [appends_eq, show min c 8 = c from by omega]
          exact this
        · have := isLt_t.mp ht.2
          rw [z] at this
          exact absurd this (by decide)
  exact key _ 0 rfl (by omega)
theorem m_cutInt {h : hp} {f : Nat → Int32} {n i m : Nat} {Q : hp → Prop} {X7 : Int32 × hp → Prop} (a : aText h n f) (hb : isBy f n) (e : gI h 0 10 = nI m) (hm : m < 403) (hi : i < n) (hnl : ¬ isLt (f i) = true) (hl : isDg (f i) = true) (hq : ∀ k v w, isTk f n i k v w → X7 (nI (tEnd f n i), mkPut h m k i v w)) : w_X12_cut_208 Q X7 (nI i) h 0 0 := by
  unfold w_X12_cut_208
  have hn := a.2.1
  obtain ⟨r1, r2, r3, r4⟩ := rn_spec isDg f n _ i rfl
  have r2 := r2 (by omega)
  have eE : tEnd f n i = rn isDg f n i := by unfold tEnd; rw [if_neg hnl, if_pos hl]
  intro X hX
  have out : ∀ c, c = rn isDg f n i - i → ((nI c ≤ 4 → w_X12_cut_261 Q X7 (nI i) (nI c) (dgF' f i (min c 4)) h 2) ∧ (¬ nI c ≤ 4 → w_X12_cut_261 Q X7 (nI i) (nI c) (dgF' f i (min c 4)) h 3)) := fun c ec => by
    have e4 : nI c ≤ 4 ↔ c ≤ 4 := nI_leI (a := c) (b := 4) (by omega) (by omega)
    have tkc : tkK f n i = if c ≤ 4 then 2 else 3 := by unfold tkK; rw [if_neg hnl, if_pos hl, ← ec]
    have tvc : tkV f n i = (dgF' f i c).toInt64 := by unfold tkV; rw [if_neg hnl, if_pos hl, ← ec]
    have fin : ∀ k : Nat, ∀ v : Int32, isTk f n i (nI k) v 0 → w_X12_cut_261 Q X7 (nI i) (nI c) v h (nI k) := fun k v tk => by
      unfold w_X12_cut_261
      refine m_token e hm (fun x ex => ?_)
      rw [nI_add, ec, show i + (rn isDg f n i - i) = rn isDg f n i from by omega, ← eE] at ex
      subst ex
      exact hq _ _ _ tk
    rw [e4]
    refine ⟨fun c4 => fin 2 _ ⟨?_, fun _ => ?_, fun q => ?_⟩, fun c4 => fin 3 _ ⟨?_, fun q => ?_, fun q => ?_⟩⟩
    · rw [tkc, if_pos c4]
    · rw [tvc, Nat.min_eq_left c4]
      exact (Int32.toInt32_toInt64 _).symm
    · rw [tkc, if_pos c4] at q; omega
    · rw [tkc, if_neg c4]
    · rw [tkc, if_neg c4] at q; omega
    · rw [tkc, if_neg c4] at q; omega
  have key : ∀ q c, rn isDg f n i - i - c = q → c ≤ rn isDg f n i - i → X (nI c, dgF' f i (min c 4)) := by
    intro q
    induction q with
    | zero =>
      intro c hc1 hc2
      have ec : c = rn isDg f n i - i := by omega
      apply hX
      show w_X12_byteAt h (nI i + nI c) _
      rw [nI_add]
      have er : i + c = rn isDg f n i := by omega
      refine m_byteAt a (by omega) (fun hlt => m_isDigit (fun z => ?_) (fun z => ⟨fun _ => out c ec, fun z => absurd rfl z⟩)) (fun hge => m_isDigit (fun z => absurd z (by decide)) (fun z => ⟨fun _ => out c ec, fun z => absurd rfl z⟩))
      have b := hb (i + c) hlt
      rw [dg255 b.1 b.2, er] at z
      exact absurd ⟨by omega, z⟩ r4
    | succ q ih =>
      intro c hc1 hc2
      have ht := r3 (i + c) (by omega) (by omega)
      have b := hb (i + c) ht.1
      have z0 : f (i + c) &&& 255 = f (i + c) := z255 b.1 b.2 (by have := isDg_t.mp ht.2; omega)
      apply hX
      show w_X12_byteAt h (nI i + nI c) _
      rw [nI_add]
      refine m_byteAt a (by omega) (fun hlt => ?_) (fun hge => by omega)
      rw [z0]
      refine m_isDigit (fun z => ⟨fun z => absurd z (by decide), fun _ => ⟨fun c8 x ex => ?_, fun c8 => ?_⟩⟩) (fun z => absurd ht.2 z)
      · have c8 : 4 ≤ c := (nI_leI (a := 4) (b := c) (by omega) (by omega)).mp c8
        have ex : x = nI (c + 1) := by rw [nI_succ]; exact ex
        subst ex
        have := ih (c + 1) (by omega) (by omega)
        rw [show min (c + 1) 4 = min c 4 from by omega] at this
        exact this
      · have c8 : c < 4 := Nat.lt_of_not_le (fun z => c8 ((nI_leI (a := 4) (b := c) (by omega) (by omega)).mpr z))
        refine m_byteAt a (by omega) (fun hlt y ey x ex => ?_) (fun hge => by omega)
        rw [z0] at ey
        have ex : x = nI (c + 1) := by rw [nI_succ]; exact ex
        subst ex
        have := ih (c + 1) (by omega) (by omega)
        rw [show min (c + 1) 4 = c + 1 from by omega] at this
        have ey : y = dgF' f i (c + 1) := by
          rw [ey]
          show 10 * dgF' f i (min c 4) + f (i + c) - 48 = dgF' f i c * 10 + (f (i + c) - 48)
          rw [show min c 4 = c from by omega, Int32.mul_comm, Int32.sub_eq_add_neg, Int32.sub_eq_add_neg, Int32.add_assoc]
        subst ey
        exact this
  exact key _ 0 rfl (by omega)
def entM (h : hp) (f : Nat → Int32) (n m : Nat) : Prop := ∀ k, k < m → pos f n k < n ∧ gI h 3 k = nI (tkK f n (pos f n k)) ∧ gI h 4 k = nI (pos f n k) ∧ (tkK f n (pos f n k) = 2 → gI h 5 k = (tkV f n (pos f n k)).toInt32) ∧ (tkK f n (pos f n k) = 1 → gL h 6 k = tkV f n (pos f n k))
theorem entM_put {h : hp} {f : Nat → Int32} {n m : Nat} {k v : Int32} {w : Int64} (a : entM h f n m) (hp1 : pos f n m < n) (tk : isTk f n (pos f n m) k v w) : entM (mkPut h m k (pos f n m) v w) f n (m + 1) := fun j hj => by
  rw [mkPut_3, mkPut_4, mkPut_5, mkPut_6]
  by_cases c : j = m
  · subst c
    rw [if_pos rfl, if_pos rfl, if_pos rfl, if_pos rfl]
    exact ⟨hp1, tk.1, rfl, tk.2.1, tk.2.2⟩
  · rw [if_neg c, if_neg c, if_neg c, if_neg c]
    exact a j (by omega)
theorem m_cut {h : hp} {f : Nat → Int32} {n : Nat} {Q : hp → Prop} (a : aText h n f) (hb : isBy f n) (hw : ∀ i, i < 17 → gL h 7 i = wrd i) (hq : ∀ h1 c, eqE cutM h h1 → mTk h1 f n c → Q h1) : w_X12_cut h Q := by
  unfold w_X12_cut w_X12_cut_0
  intro h1 e1
  have hn := a.2.1
  unfold w_X12_cut_7
  intro X hX
  have key : ∀ q t m h2, n - t = q → t ≤ n → m ≤ 401 → eqE cutM h h2 → gI h2 0 10 = nI m → entM h2 f n m → rn isBk f n t = pos f n m → X (nI t, h2) := by
    intro q
    induction q using Nat.strongRecOn with
    | ind q ih =>
      intro t m h2 hq1 ht hm ee em ent hp1
      have a2 : aText h2 n f := ⟨by rw [eqE_I ee (by unfold cutM; omega)]; exact a.1, hn, fun k hk => by rw [eqE_I ee (by unfold cutM; omega)]; exact a.2.2 k hk⟩
      have w2 : ∀ i, i < 17 → gL h2 7 i = wrd i := fun i hi => by rw [eqE_L ee (by unfold cutM; omega)]; exact hw i hi
      apply hX
      show w_X12_cut_b7 Q X (nI t) h2
      unfold w_X12_cut_b7
      rw [em, a2.1]
      have e400 : (400 : Int32) < nI m ↔ 400 < m := by rw [t_lt, n_toInt (by omega), show (400 : Int32).toInt = 400 from rfl]; omega
      have etn : nI t < nI n ↔ t < n := by rw [t_lt, n_toInt (by omega), n_toInt (by omega)]; omega
      rw [e400, etn]
      refine ⟨fun c => hq h2 m ee ⟨hm, ent, fun z => by omega⟩, fun c => m_byteAt a2 (by omega) (fun hlt => ⟨fun _ => ?_, fun z => absurd hlt z⟩) (fun hge => ⟨fun z => absurd z (by omega), fun _ => m_token em (by omega) ?_⟩)⟩
      · have b := hb t hlt
        rw [n255 b.1 b.2 (v := 9) (by decide) (by decide), n255 b.1 b.2 (v := 10) (by decide) (by decide), n255 b.1 b.2 (v := 13) (by decide) (by decide), n255 b.1 b.2 (v := 32) (by decide) (by decide)]
        have blank : isBk (f t) = true → ∀ x, x = nI t + 1 → X (x, h2) := fun bl x ex => by
          rw [← nI_succ] at ex
          subst ex
          exact ih (n - (t + 1)) (by omega) (t + 1) m h2 rfl (by omega) hm ee em ent (by rw [← rn_s hlt bl]; exact hp1)
        have e9 : f t = 9 ↔ (f t).toInt = 9 := t_eq
        have e10 : f t = 10 ↔ (f t).toInt = 10 := t_eq
        have e13 : f t = 13 ↔ (f t).toInt = 13 := t_eq
        have e32 : f t = 32 ↔ (f t).toInt = 32 := t_eq
        refine ⟨fun c => blank (isBk_t.mpr (Or.inl (e9.mp c))), fun n9 => ⟨fun c => blank (isBk_t.mpr (Or.inr (Or.inl (e10.mp c)))), fun n10 => ⟨fun c => blank (isBk_t.mpr (Or.inr (Or.inr (Or.inl (e13.mp c))))), fun n13 => ⟨fun n32 => ?_, fun c => blank (isBk_t.mpr (Or.inr (Or.inr (Or.inr (e32.mp c)))))⟩⟩⟩⟩
        have nb : ¬ isBk (f t) = true := fun q => by
          rcases isBk_t.mp q with q | q | q | q
          · exact n9 (e9.mpr q)
          · exact n10 (e10.mpr q)
          · exact n13 (e13.mpr q)
          · exact n32 (e32.mpr q)
        have ept : pos f n m = t := by
          rw [← hp1]
          exact rn_e (fun z => nb z.2)
        have ht2 := tEnd_le (f := f) (n := n) (i := t) hlt
        have go : ∀ k v w, isTk f n t k v w → X (nI (tEnd f n t), mkPut h2 m k t v w) := fun k v w tk => by
          refine ih (n - tEnd f n t) (by omega) (tEnd f n t) (m + 1) _ rfl ht2.2 (by omega) (eqE_trans ee mkPut_e) (gI_at _ _ _ _) ?_ ?_
          · have := entM_put ent (by omega) (k := k) (v := v) (w := w) (by rw [ept]; exact tk)
            rw [ept] at this
            exact this
          · show _ = rn isBk f n (tEnd f n (pos f n m))
            rw [ept]
        refine m_isLetter (fun lt => ⟨fun z => absurd z (by decide), fun _ => m_cutName a2 hb w2 em (by omega) hlt ((lt255 b.1 b.2).mp lt) go⟩) (fun nl => ⟨fun _ => ?_, fun z => absurd rfl z⟩)
        have nl : ¬ isLt (f t) = true := fun z => nl ((lt255 b.1 b.2).mpr z)
        refine m_isDigit (fun dg => ⟨fun z => absurd z (by decide), fun _ => m_cutInt a2 hb em (by omega) hlt nl ((dg255 b.1 b.2).mp dg) go⟩) (fun nd => ⟨fun _ => ?_, fun z => absurd rfl z⟩)
        have nd : ¬ isDg (f t) = true := fun z => nd ((dg255 b.1 b.2).mpr z)
        have tk : isTk f n t (nI (sgF (f t))) 0 0 := by
          have e : tkK f n t = sgF (f t) := by unfold tkK; rw [if_neg nl, if_neg nd]
          have := sgF_ge (f t)
          exact ⟨by rw [e], fun q => by omega, fun q => by omega⟩
        have eE : tEnd f n t = t + 1 := by unfold tEnd; rw [if_neg nl, if_neg nd]
        have g := go _ _ _ tk
        rw [eE, nI_succ] at g
        have sg : ∀ r : Int32, w_X12_sign h2 (nI t) (f t &&& 255) r (fun r22 h21 => ∀ x1_23, x1_23 = nI t + r22 → X (x1_23, h21)) := fun r => m_sign em (by omega) (fun x ex => by
          subst ex
          rw [sg255 b.1 b.2]
          exact g)
        rw [← nI_succ]
        exact m_byteAt a2 (by omega) (fun _ => sg _) (fun _ => sg _)
      · have : rn isBk f n t = t := rn_e (fun z => by omega)
        refine hq _ m (eqE_trans ee mkPut_e) ⟨hm, fun k hk => ?_, fun _ => ⟨by omega, ?_, ?_⟩⟩
        · rw [mkPut_3, mkPut_4, mkPut_5, mkPut_6, if_neg (by omega), if_neg (by omega), if_neg (by omega), if_neg (by omega)]
          exact ent k hk
        · rw [mkPut_3, if_pos rfl]
        · rw [mkPut_4, if_pos rfl]
  subst e1
  exact key n 0 0 _ rfl (by omega) (by omega) (eqE_sI (eqE_refl h) (by unfold cutM; omega)) (gI_at _ _ _ _) (fun k hk => by omega) rfl
