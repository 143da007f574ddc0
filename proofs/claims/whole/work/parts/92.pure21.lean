/-! leaders -/
def Sf (f : Nat → Int64) (P : Nat → Prop) [DecidablePred P] : Nat → Int64 → Option Nat
  | 0, _ => none
  | i + 1, k => match Sf f P i k with
    | some j => some j
    | none => if P i ∧ f i = k then some i else none
def ldF (f : Nat → Int64) (P : Nat → Prop) [DecidablePred P] (i : Nat) : Nat := (Sf f P i (f i)).getD i
theorem Sf_some {f : Nat → Int64} {P : Nat → Prop} [DecidablePred P] : ∀ (i : Nat) {k : Int64} {l : Nat}, Sf f P i k = some l → l < i ∧ P l ∧ f l = k
  | 0, _, _, h => absurd h (by unfold Sf; simp)
  | i + 1, k, l, h => by
    unfold Sf at h
    cases hs : Sf f P i k with
    | some j =>
      rw [hs] at h
      have e : j = l := by simpa using h
      subst e
      have := Sf_some i hs
      exact ⟨by omega, this.2⟩
    | none =>
      rw [hs] at h
      have h : (if P i ∧ f i = k then some i else none) = some l := h
      by_cases c : P i ∧ f i = k
      · rw [if_pos c] at h
        have e : i = l := by simpa using h
        subst e
        exact ⟨Nat.lt_succ_self i, c⟩
      · rw [if_neg c] at h
        exact absurd h (by simp)
theorem Sf_none {f : Nat → Int64} {P : Nat → Prop} [DecidablePred P] : ∀ (i : Nat) {k : Int64}, Sf f P i k = none → ∀ l, l < i → P l → ¬ f l = k
  | 0, _, _, l, hl, _ => absurd hl (by omega)
  | i + 1, k, h, l, hl, hp => by
    unfold Sf at h
    cases hs : Sf f P i k with
    | some j => rw [hs] at h; exact absurd h (by simp)
    | none =>
      rw [hs] at h
      have h : (if P i ∧ f i = k then some i else none) = none := h
      rcases Nat.lt_or_ge l i with c | c
      · exact Sf_none i hs l c hp
      · have e : l = i := by omega
        subst e
        intro q
        rw [if_pos ⟨hp, q⟩] at h
        exact absurd h (by simp)
theorem Sf_skip {f : Nat → Int64} {P : Nat → Prop} [DecidablePred P] {i : Nat} (h : ¬ P i) : Sf f P (i + 1) = Sf f P i := by
  funext k
  show (match Sf f P i k with | some j => some j | none => if P i ∧ f i = k then some i else none) = _
  cases Sf f P i k with
  | some j => rfl
  | none => exact if_neg (fun q => h q.1)
theorem Sf_old {f : Nat → Int64} {P : Nat → Prop} [DecidablePred P] {i l : Nat} (h : Sf f P i (f i) = some l) : Sf f P (i + 1) = Sf f P i := by
  funext k
  show (match Sf f P i k with | some j => some j | none => if P i ∧ f i = k then some i else none) = _
  cases hs : Sf f P i k with
  | some j => rfl
  | none => exact if_neg (fun q => by rw [← q.2, h] at hs; exact absurd hs (by simp))
theorem Sf_new {f : Nat → Int64} {P : Nat → Prop} [DecidablePred P] {i : Nat} (hp : P i) (h : Sf f P i (f i) = none) : Sf f P (i + 1) = setS (Sf f P i) (f i) i := by
  funext k
  show (match Sf f P i k with | some j => some j | none => if P i ∧ f i = k then some i else none) = (if k = f i then some i else Sf f P i k)
  by_cases c : k = f i
  · rw [if_pos c, c, h]
    exact if_pos ⟨hp, rfl⟩
  · rw [if_neg c]
    cases hs : Sf f P i k with
    | some j => rfl
    | none => exact if_neg (fun q => c q.2.symm)
theorem ldF_le {f : Nat → Int64} {P : Nat → Prop} [DecidablePred P] {i : Nat} : ldF f P i ≤ i := by
  unfold ldF
  cases hs : Sf f P i (f i) with
  | some l => exact Nat.le_of_lt (Sf_some i hs).1
  | none => exact Nat.le_refl i
theorem cTab_up {z : Nat} {h : hp} {S : Int64 → Option Nat} {n n' : Nat} (a : cTab z h S n) (hn : n ≤ n') : cTab z h S n' := ⟨a.1, ⟨a.2.1.1, a.2.1.2.1, Nat.le_trans a.2.1.2.2 hn⟩, a.2.2⟩
theorem mTab_up {h : hp} {S : Int64 → Option Nat} {n n' : Nat} (a : mTab h S n) (hn : n ≤ n') : mTab h S n' := ⟨⟨a.1.1, a.1.2.1, Nat.le_trans a.1.2.2 hn⟩, a.2⟩
theorem c_leadS {z : Nat} {h : hp} {f : Nat → Int64} {P : Nat → Prop} [DecidablePred P] {i : Nat} {Q : Int32 → hp → Prop} (hz : z ≤ 14) (a : cTab z h (Sf f P i) i) (hi : i < 2 ^ z) (hp : P i) (hq : ∀ h1, cTab z h1 (Sf f P (i + 1)) (i + 1) → eqE tScr h h1 → Q (nI (ldF f P i)) h1) : w_X4_leaderOf h (f i) (nI i) Q := by
  have hZ : 2 ^ z ≤ 16384 := Nat.pow_le_pow_right (n := 2) (by decide) hz
  refine c_leaderOf hz a hi (by omega) (fun l hs => ?_) (fun h1 hs a1 e1 => ?_)
  · have := hq h (by rw [Sf_old hs]; exact cTab_up a (by omega)) (eqE_refl h)
    unfold ldF at this
    rw [hs] at this
    exact this
  · have := hq h1 (by rw [Sf_new hp hs]; exact a1) e1
    unfold ldF at this
    rw [hs] at this
    exact this
/-- the reference's scratch -/
def mScr (a j : Nat) : Prop := (a = 0 ∧ (j = 50 ∨ j = 54 ∨ j = 55 ∨ j = 65 ∨ j = 66)) ∨ (32 ≤ a ∧ a ≤ 37) ∨ (40 ≤ a ∧ a ≤ 44)
def mtScr (a _j : Nat) : Prop := a = 34 ∨ a = 35 ∨ a = 36
theorem mtScr_m : ∀ a j, mtScr a j → mScr a j := fun a j h => by unfold mtScr at h; unfold mScr; omega
theorem m_leadS {h : hp} {f : Nat → Int64} {P : Nat → Prop} [DecidablePred P] {i : Nat} {Q : Int32 → hp → Prop} (a : mTab h (Sf f P i) i) (hi : i < 32768) (hp : P i) (hq : ∀ p h1, p < 32768 → mTab h1 (Sf f P (i + 1)) (i + 1) → gI h1 35 p = nI (ldF f P i) → eqE mtScr h h1 → Q (nI p) h1) : w_X12_keyAt h (f i) (nI i) Q := by
  refine m_keyAt a hi (by omega) (fun p l hp hs _ e35 _ => ?_) (fun p hp' hs _ a1 => ?_)
  · refine hq p h hp (by rw [Sf_old hs]; exact mTab_up a (by omega)) ?_ (eqE_refl h)
    unfold ldF
    rw [hs]
    exact e35
  · refine hq p _ hp' (by rw [Sf_new hp hs]; exact a1) ?_ (eqE_sL (eqE_sI (eqE_refl h) (Or.inr (Or.inl rfl))) (Or.inl rfl))
    unfold ldF
    rw [hs, gI_sL]
    exact gI_at _ _ _ _
/-! a table is emptied -/
theorem c_fillR {a no n : Nat} {h : hp} {x v : Int32} {Q : hp → Prop} (hn : n ≤ no) (hno : no < 2147483648) (ex : x = nI n) (hq : Q (fillI a v h n)) : w_J7_fill_fda19 a no h 0 x v Q := by
  subst ex
  unfold w_J7_fill_fda19 w_J7_fill_fda19_0 w_J7_rangeCheck_23922 w_J7_rangeCheck_23922_0
  refine ⟨fun _ => ⟨fun _ => ⟨fun _ => ?_, fun c => absurd (nI_le hn (by omega)) c⟩, fun c => absurd (Int32.le_refl 0) c⟩, fun c => absurd (nI_pos' (by omega)) c⟩
  unfold w_J7_fill_fda19_10
  intro X hX
  have key : ∀ m k : Nat, m + k = n → X (nI k, fillI a v h k) := by
    intro m
    induction m with
    | zero =>
      intro k hk
      have ek : k = n := by omega
      subst ek
      apply hX
      exact ⟨fun _ => hq, fun c => absurd (nI_le (Nat.le_refl _) (by omega)) c⟩
    | succ m ih =>
      intro k hk
      apply hX
      refine ⟨fun c => absurd c (nI_ge (by omega) (by omega)), fun _ => ⟨in_n (by omega) (by omega), fun h3 e3 y ey => ?_⟩⟩
      have e3 : h3 = sI (fillI a v h k) a (ix (nI k)) v := e3
      have ey : y = nI k + 1 := ey
      rw [ix_n (by omega)] at e3
      rw [← nI_succ] at ey
      rw [e3, ey]
      exact ih (k + 1) (by omega)
  exact key n 0 (by omega)
theorem c_clear {h : hp} {m : Nat} {Q : hp → Prop} (hm : m ≤ 10000) (hq : ∀ z h1, z ≤ 14 → m < 2 ^ z → cTab z h1 (fun _ => none) 0 → eqE tScr h h1 → Q h1) : w_X4_clear h (nI m) Q := by
  unfold w_X4_clear w_X4_clear_0
  intro h1 e1
  have x1 : eqE tScr h h1 := by rw [e1]; exact eqE_sI (eqE_refl h) (Or.inl rfl)
  have s1 : gI h1 68 2 = nI (2 ^ 4) := by rw [e1]; exact gI_at _ _ _ _
  clear e1
  have em : nI m + nI m / 2 = nI (m + m / 2) := by
    rw [show (2 : Int32) = nI 2 from rfl, nI_div (by omega) (by omega) (by omega), nI_add]
  unfold w_X4_clear_6
  intro X hX
  have fin : ∀ (z : Nat) (g : hp), z ≤ 14 → m < 2 ^ z → gI g 68 2 = nI (2 ^ z) → eqE tScr h g → w_X4_clear_41 Q g := by
    intro z g hz hmz sg xg
    have hZ : 2 ^ z ≤ 16384 := Nat.pow_le_pow_right (n := 2) (by decide) hz
    unfold w_X4_clear_41
    refine c_fillR hZ (by omega) sg (hq z _ hz hmz ⟨?_, tab_empty (fun p hp => ?_), fun p hp => ?_⟩ (eqE_fill xg (fun j _ => Or.inr (Or.inr rfl))))
    · rw [fillI_I, if_neg (fun q => absurd q.1 (by decide))]; exact sg
    · refine decide_eq_false (fun q => q ?_)
      rw [fillI_I, if_pos ⟨rfl, hp⟩]
    · rw [fillI_I, if_pos ⟨rfl, hp⟩]
      decide
  have key : ∀ (n z : Nat) (g : hp), n + z = 14 → 4 ≤ z → gI g 68 2 = nI (2 ^ z) → eqE tScr h g → X g := by
    intro n
    induction n with
    | zero =>
      intro z g hz hz4 sg xg
      have ez : z = 14 := by omega
      subst ez
      apply hX
      unfold w_X4_clear_b6
      rw [sg]
      exact ⟨fun _ => fin 14 g (Nat.le_refl _) (by omega) sg xg, fun c => absurd (show (16384 : Int32) ≤ nI (2 ^ 14) by decide) c⟩
    | succ n ih =>
      intro z g hz hz4 sg xg
      have hZ : 2 ^ z ≤ 8192 := (show 2 ^ z ≤ 2 ^ 13 from Nat.pow_le_pow_right (by decide) (by omega))
      have hZ4 : 16 ≤ 2 ^ z := (show 2 ^ 4 ≤ 2 ^ z from Nat.pow_le_pow_right (by decide) hz4)
      apply hX
      unfold w_X4_clear_b6
      rw [sg, em]
      refine ⟨fun c => absurd c (nI_ge (b := 16384) (by omega) (by omega)), fun _ => ⟨fun c => fin z g (by omega) ?_ sg xg, fun c h4 e4 => ?_⟩⟩
      · rw [nI_leI (by omega) (by omega)] at c; omega
      · rw [show (2 : Int32) = nI 2 from rfl, nI_mul (by omega) (by omega) (by omega), ← Nat.pow_succ] at e4
        refine ih (z + 1) h4 (by omega) (by omega) ?_ ?_
        · rw [e4]; exact gI_at _ _ _ _
        · rw [e4]; exact eqE_sI xg (Or.inl rfl)
  exact key 10 4 h1 rfl (Nat.le_refl _) s1 x1
def mClr (h : hp) : Nat → hp
  | 0 => h
  | k + 1 => sI (sI (mClr h k) 35 k (-1)) 36 k 0
theorem mClr_I (h : hp) : ∀ (n x j : Nat), gI (mClr h n) x j = if x = 35 ∧ j < n then -1 else if x = 36 ∧ j < n then 0 else gI h x j
  | 0, x, j => by rw [if_neg (by omega), if_neg (by omega)]; rfl
  | n + 1, x, j => by
    show gI (sI (sI (mClr h n) 35 n (-1)) 36 n 0) x j = _
    rw [gI_sI, gI_sI, mClr_I h n]
    by_cases a : x = 35
    · subst a
      rw [if_neg (fun q => absurd q.1 (by decide))]
      by_cases e : j = n
      · rw [if_pos ⟨rfl, e⟩, if_pos ⟨rfl, by omega⟩]
      · rw [if_neg (fun q => e q.2)]
        by_cases c : j < n
        · rw [if_pos ⟨rfl, c⟩, if_pos ⟨rfl, by omega⟩]
        · rw [if_neg (fun q => c q.2), if_neg (fun q => absurd q.1 (by decide)), if_neg (fun q => c (by have := q.2; omega)), if_neg (fun q => absurd q.1 (by decide))]
    · rw [if_neg (show ¬ (x = 35 ∧ j = n) from fun q => a q.1), if_neg (show ¬ (x = 35 ∧ j < n) from fun q => a q.1), if_neg (show ¬ (x = 35 ∧ j < n + 1) from fun q => a q.1)]
      by_cases b : x = 36
      · by_cases e : j = n
        · rw [if_pos ⟨b, e⟩, if_pos ⟨b, by omega⟩]
        · rw [if_neg (fun q => e q.2)]
          by_cases c : j < n
          · rw [if_pos ⟨b, c⟩, if_pos ⟨b, by omega⟩]
          · rw [if_neg (fun q => c q.2), if_neg (fun q => c (by have := q.2; omega))]
      · rw [if_neg (fun q => b q.1), if_neg (fun q => b q.1), if_neg (fun q => b q.1)]
theorem mClr_L (h : hp) : ∀ (n x j : Nat), gL (mClr h n) x j = gL h x j
  | 0, _, _ => rfl
  | n + 1, x, j => mClr_L h n x j
theorem mClr_R (h : hp) : ∀ (n i : Nat), gR (mClr h n) i = gR h i
  | 0, _ => rfl
  | n + 1, i => mClr_R h n i
theorem m_clears {h : hp} {Q : hp → Prop} (hq : ∀ h1, mTab h1 (fun _ => none) 0 → (∀ p, p < 32768 → gI h1 36 p = 0) → eqE mtScr h h1 → Q h1) : w_X12_clears h Q := by
  unfold w_X12_clears w_X12_clears_0 w_X12_clears_2
  intro X hX
  have key : ∀ m k : Nat, m + k = 32768 → X (nI k, mClr h k) := by
    intro m
    induction m with
    | zero =>
      intro k hk
      have ek : k = 32768 := by omega
      subst ek
      apply hX
      refine ⟨fun _ => hq _ ⟨tab_empty (fun p hp => ?_), fun p hp => ?_⟩ (fun p hp => ?_) ⟨fun a j n => ⟨?_, mClr_L h _ a j⟩, fun i => mClr_R h _ i⟩, fun c => absurd (show (32768 : Int32) ≤ nI 32768 by decide) c⟩
      · refine decide_eq_false (fun q => q ?_)
        show gI (mClr h 32768) 35 p = -1
        rw [mClr_I, if_pos ⟨rfl, hp⟩]
      · show gI (mClr h 32768) 35 p = -1 ∨ _
        rw [mClr_I, if_pos ⟨rfl, hp⟩]
        exact Or.inl rfl
      · show gI (mClr h 32768) 36 p = 0
        rw [mClr_I, if_neg (fun q => absurd q.1 (by decide)), if_pos ⟨rfl, hp⟩]
      · show gI (mClr h 32768) a j = _
        unfold mtScr at n
        rw [mClr_I, if_neg (fun q => n (by omega)), if_neg (fun q => n (by omega))]
    | succ m ih =>
      intro k hk
      apply hX
      refine ⟨fun c => absurd c (nI_ge (b := 32768) (by omega) (by omega)), fun _ => ⟨in_n (by omega) (by omega), fun h2 e2 => ⟨in_n (by omega) (by omega), fun h3 e3 y ey => ?_⟩⟩⟩
      have e2 : h2 = sI (mClr h k) 35 (ix (nI k)) (-1) := e2
      have e3 : h3 = sI h2 36 (ix (nI k)) 0 := e3
      have ey : y = nI k + 1 := ey
      rw [ix_n (by omega)] at e2 e3
      rw [← nI_succ] at ey
      rw [e3, e2, ey]
      exact ih (k + 1) (by omega)
  exact key 32768 0 rfl
/-! frames over scratch -/
theorem eqE_I {P : Nat → Nat → Prop} {h h1 : hp} (e : eqE P h h1) {a j : Nat} (n : ¬ P a j) : gI h1 a j = gI h a j := (e.1 a j n).1
theorem eqE_L {P : Nat → Nat → Prop} {h h1 : hp} (e : eqE P h h1) {a j : Nat} (n : ¬ P a j) : gL h1 a j = gL h a j := (e.1 a j n).2
theorem mAt_e {h h1 : hp} {s : Nat} (e : eqE mScr h h1) (a : mAt h s) : mAt h1 s := ⟨by rw [eqE_I e (by unfold mScr; omega)]; exact a.1, a.2⟩
theorem mWld_e {h h1 : hp} {s W G : Nat} (e : eqE mScr h h1) (a : mWld s h W G) : mWld s h1 W G := ⟨by rw [eqE_I e (by unfold mScr; omega)]; exact a.1, by rw [eqE_I e (by unfold mScr; omega)]; exact a.2⟩
theorem mTold_e {h h1 : hp} {D : Nat} {A : Nat → Int32} {B : Nat → Int64} (e : eqE mScr h h1) (a : mTold h D A B) : mTold h1 D A B := ⟨by rw [eqE_I e (by unfold mScr; omega)]; exact a.1, fun k hk => ⟨by rw [eqE_I e (by unfold mScr; omega)]; exact (a.2 k hk).1, by rw [eqE_L e (by unfold mScr; omega)]; exact (a.2 k hk).2⟩⟩
theorem cTold_e {h h1 : hp} {D : Nat} {A : Nat → Int32} {B : Nat → Int64} (e : eqE cScr h h1) (a : cTold 51 h D A B) : cTold 51 h1 D A B := ⟨by rw [eqE_I e (by unfold cScr; omega)]; exact a.1, fun k hk => ⟨by rw [eqE_I e (by unfold cScr; omega)]; exact (a.2 k hk).1, by rw [eqE_L e (by unfold cScr; omega)]; exact (a.2 k hk).2⟩⟩
/-! clash -/
abbrev allP (_ : Nat) : Prop := True
abbrev wcF (W G : Nat) (b : Int64) (i : Nat) : Int64 := wcV W G i b
def clV (f : Nat → Int64) (M : Nat) (later : Int32) : Nat → Int32
  | 0 => -2
  | n + 1 => if ldF f allP (M - (n + 1)) = M - (n + 1) then clV f M later n else if later = 0 then nI (ldF f allP (M - (n + 1))) else nI (M - (n + 1))
theorem c_clashing {h : hp} {W G : Nat} {x y : Int32} {Q : Int32 → hp → Prop} (a : cWld h W G) (ok : okW W G) (hq : ∀ h1, eqE cScr h h1 → Q (clV (wcF W G x.toInt64) ((G + 1) ^ W) y ((G + 1) ^ W)) h1) : w_X10_clashing h x y Q := by
  obtain ⟨o1, o2, o3, o4⟩ := id ok
  have hM := pow_W (G := G) (j := W) o4 o2
  unfold w_X10_clashing w_X10_clashing_0
  refine c_comeBy a ok (fun h1 x1 v1 => ?_)
  have a1 := cWld_v x1 a
  rw [a1.2.1]
  unfold cVal at v1
  unfold cWld at a1
  generalize hMe : (G + 1) ^ W = M at hM a1 v1 hq
  refine c_clear hM (fun z h2 hz hmz t2 x2 => ?_)
  have x02 : eqE cScr h h2 := eqE_trans (eqE_w vScr_c x1) (eqE_w tScr_c x2)
  have a2 : gI h2 64 1 = nI M := by rw [eqE_I x2 (by unfold tScr; omega)]; exact a1.2.1
  have v2 : ∀ i, i < M → gL h2 65 i = wcV W G i x.toInt64 := fun i hi => by rw [eqE_L x2 (by unfold tScr; omega)]; exact v1 i hi
  have a1 := True.intro
  unfold w_X10_clashing_19
  intro X hX
  have key : ∀ (n i : Nat) (g : hp), n + i = M → eqE cScr h g → gI g 64 1 = nI M → (∀ i, i < M → gL g 65 i = wcV W G i x.toInt64) → cTab z g (Sf (wcF W G x.toInt64) allP i) i → (∀ h1, eqE cScr h h1 → Q (clV (wcF W G x.toInt64) M y n) h1) → X (nI i, g) := by
    intro n
    induction n with
    | zero =>
      intro i g hi xg ag vg tg hq
      have ei : i = M := by omega
      subst ei
      apply hX
      unfold w_X10_clashing_b19
      rw [ag]
      exact ⟨fun _ => hq g xg, fun c => absurd (nI_le (Nat.le_refl _) (by omega)) c⟩
    | succ n ih =>
      intro i g hi xg ag vg tg hq
      unfold clV at hq
      rw [show M - (n + 1) = i from by omega] at hq
      apply hX
      unfold w_X10_clashing_b19
      rw [ag, ix_n (by omega), vg i (by omega)]
      have hle := ldF_le (f := wcF W G x.toInt64) (P := allP) (i := i)
      refine ⟨fun c => absurd c (nI_ge (by omega) (by omega)), fun _ => ⟨in_n (by omega) (by omega), ?_⟩⟩
      refine c_leadS (f := wcF W G x.toInt64) (P := allP) hz tg (by omega) trivial (fun h4 t4 x4 => ⟨fun c u eu => ?_, fun c => ?_⟩)
      · have c := (nI_eq (by omega) (by omega)).mp c
        rw [if_pos c] at hq
        rw [← nI_succ] at eu
        subst eu
        refine ih (i + 1) h4 (by omega) (eqE_trans xg (eqE_w tScr_c x4)) ?_ (fun j hj => ?_) t4 hq
        · rw [eqE_I x4 (by unfold tScr; omega)]; exact ag
        · rw [eqE_L x4 (by unfold tScr; omega)]; exact vg j hj
      · rw [if_neg (fun q => c (by rw [q]))] at hq
        have := hq h4 (eqE_trans xg (eqE_w tScr_c x4))
        refine ⟨fun c2 => ?_, fun c2 => ?_⟩
        · rw [if_pos c2] at this; exact this
        · rw [if_neg c2] at this; exact this
  exact key M 0 h2 (by omega) x02 a2 v2 t2 hq
theorem c_clash {h : hp} {W G : Nat} {x y : Int32} {Q : Int32 → hp → Prop} (a : cWld h W G) (ok : okW W G) (hq1 : ∀ h1, 0 ≤ x.toInt ∧ x.toInt ≤ 999 → eqE cScr h h1 → Q (clV (wcF W G x.toInt64) ((G + 1) ^ W) y ((G + 1) ^ W)) h1) (hq0 : ¬ (0 ≤ x.toInt ∧ x.toInt ≤ 999) → Q (-1) h) : w_X11_clash h x y Q := by
  unfold w_X11_clash w_X11_clash_0
  refine c_within (fun c1 => ⟨fun q => absurd q (by decide), fun _ => ?_⟩) (fun c1 => ⟨fun _ => hq0 (fun q => c1 (by rw [tL_int]; exact q)), fun q => absurd rfl q⟩)
  rw [tL_int] at c1
  exact c_clashing a ok (fun h1 e1 => hq1 h1 c1 e1)
theorem clV_in {f : Nat → Int64} {M : Nat} {y : Int32} (hM : M ≤ 10000) : ∀ n, n ≤ M → (clV f M y n = -2 ∧ (∀ i, M - n ≤ i → i < M → ldF f allP i = i)) ∨ ∃ i j, i < M ∧ j < i ∧ ldF f allP i = j ∧ M - n ≤ i ∧ clV f M y n = if y = 0 then nI j else nI i
  | 0, _ => Or.inl ⟨rfl, fun i h1 h2 => by omega⟩
  | n + 1, hn => by
    unfold clV
    have hle := ldF_le (f := f) (P := allP) (i := M - (n + 1))
    by_cases c : ldF f allP (M - (n + 1)) = M - (n + 1)
    · rw [if_pos c]
      rcases clV_in (f := f) (y := y) hM n (by omega) with q | ⟨i, j, h1, h2, h3, h4, h5⟩
      · refine Or.inl ⟨q.1, fun i h1 h2 => ?_⟩
        rcases Nat.lt_or_ge i (M - n) with w | w
        · rw [show i = M - (n + 1) from by omega]; exact c
        · exact q.2 i w h2
      · exact Or.inr ⟨i, j, h1, h2, h3, by omega, h5⟩
    · rw [if_neg c]
      exact Or.inr ⟨M - (n + 1), _, by omega, by omega, rfl, by omega, rfl⟩
theorem m_clashes {h : hp} {s W G : Nat} {x : Int32} {Q : Int32 → hp → Prop} (t : mAt h s) (a : mWld s h W G) (ok : okW W G) (hq0 : ∀ h1, (∀ i, i < (G + 1) ^ W → ldF (wcF W G x.toInt64) allP i = i) → eqE mScr h h1 → Q 0 h1) (hq1 : ∀ i h1, i < (G + 1) ^ W → ¬ ldF (wcF W G x.toInt64) allP i = i → (∀ i', i' < i → ldF (wcF W G x.toInt64) allP i' = i') → eqE mScr h h1 → gI h1 0 54 = nI (ldF (wcF W G x.toInt64) allP i) → gI h1 0 55 = nI i → Q 1 h1) : w_X12_clashes h x Q := by
  obtain ⟨o1, o2, o3, o4⟩ := id ok
  have hM := pow_W (G := G) (j := W) o4 o2
  unfold w_X12_clashes w_X12_clashes_0
  refine m_clears (fun h1 t1 _ x1 => ?_)
  have x1 : eqE mScr h h1 := eqE_w mtScr_m x1
  unfold w_X12_clashes_6
  intro X hX
  have wa : ∀ {R : Int32 → Prop} {g : hp}, eqE mScr h g → R (nI ((G + 1) ^ W)) → w_X12_worldAll g R := fun eg hr => m_worldAll (mAt_e eg t) (mWld_e eg a) ok hr
  generalize (G + 1) ^ W = M at hM wa hq0 hq1
  have key : ∀ (n i : Nat) (g : hp), n + i = M → eqE mScr h g → mTab g (Sf (wcF W G x.toInt64) allP i) i → (∀ i', i' < i → ldF (wcF W G x.toInt64) allP i' = i') → X (nI i, g) := by
    intro n
    induction n with
    | zero =>
      intro i g hi xg tg dg
      have ei : i = M := by omega
      subst ei
      apply hX
      exact wa xg ⟨fun _ => hq0 g dg xg, fun c => absurd (nI_le (Nat.le_refl _) (by omega)) c⟩
    | succ n ih =>
      intro i g hi xg tg dg
      apply hX
      refine wa xg ⟨fun c => absurd c (nI_ge (by omega) (by omega)), fun _ => ?_⟩
      refine m_worldComes (mAt_e xg t) (mWld_e xg a) ok (by omega) ?_
      have hle := ldF_le (f := wcF W G x.toInt64) (P := allP) (i := i)
      refine m_leadS (f := wcF W G x.toInt64) (P := allP) tg (by omega) trivial (fun p h7 hp t7 e35 x7 => ⟨in_n hp (by omega), fun u eu => ?_⟩)
      rw [ix_n (by omega), e35] at eu
      subst eu
      have x07 := eqE_trans xg (eqE_w mtScr_m x7)
      refine ⟨fun c h11 e11 h12 e12 => ?_, fun c v ev => ?_⟩
      · have c : ¬ ldF (wcF W G x.toInt64) allP i = i := fun q => c (congrArg nI q)
        have e12 : h12 = sI h11 0 55 (nI i) := e12
        refine hq1 i h12 (by omega) c dg ?_ ?_ ?_
        · rw [e12, e11]
          exact eqE_sI (eqE_sI x07 (Or.inl (by omega))) (Or.inl (by omega))
        · rw [e12, gI_k _ _ (by decide), e11]; exact gI_at _ _ _ _
        · rw [e12]; exact gI_at _ _ _ _
      · have c := (nI_eq (by omega) (by omega)).mp c
        have ev : v = nI i + 1 := ev
        rw [← nI_succ] at ev
        subst ev
        refine ih (i + 1) h7 (by omega) x07 t7 (fun i' hi' => ?_)
        rcases Nat.lt_or_ge i' i with w | w
        · exact dg i' w
        · rw [show i' = i from by omega]; exact c
  exact key M 0 h1 (by omega) x1 t1 (fun i' h => by omega)
theorem clV_first {f : Nat → Int64} {M i : Nat} {y : Int32} (hi : i < M) (h1 : ¬ ldF f allP i = i) (h2 : ∀ i', i' < i → ldF f allP i' = i') : ∀ n, n ≤ M → M - n ≤ i → clV f M y n = if y = 0 then nI (ldF f allP i) else nI i
  | 0, _, h => by omega
  | n + 1, hn, h => by
    unfold clV
    by_cases e : M - (n + 1) = i
    · rw [e, if_neg h1]
    · rw [if_pos (h2 _ (by omega))]
      exact clV_first hi h1 h2 n (by omega) (by omega)
theorem clV_none {f : Nat → Int64} {M : Nat} {y : Int32} (h : ∀ i, i < M → ldF f allP i = i) : ∀ n, n ≤ M → clV f M y n = -2
  | 0, _ => rfl
  | n + 1, hn => by
    unfold clV
    rw [if_pos (h _ (by omega))]
    exact clV_none h n (by omega)
theorem m_clash {h : hp} {s W G : Nat} {x y : Int32} {Q : Int32 → hp → Prop} (t : mAt h s) (a : mWld s h W G) (ok : okW W G) (hq1 : ∀ h1, 0 ≤ x.toInt ∧ x.toInt ≤ 999 → eqE mScr h h1 → Q (clV (wcF W G x.toInt64) ((G + 1) ^ W) y ((G + 1) ^ W)) h1) (hq0 : ¬ (0 ≤ x.toInt ∧ x.toInt ≤ 999) → Q (-1) h) : w_X12_clash h x y Q := by
  unfold w_X12_clash w_X12_clash_0
  refine m_in (fun c1 => ⟨fun _ => ?_, fun q => absurd q (by decide)⟩) (fun c1 => ⟨fun q => absurd rfl q, fun _ => hq0 (fun q => c1 (by rw [tL_int]; exact q))⟩)
  rw [tL_int] at c1
  refine m_clashes t a ok (fun h1 d e => ⟨fun c => absurd rfl c, fun _ => ?_⟩) (fun i h1 hi c d e g1 g2 => ⟨fun _ => ⟨fun c2 => ?_, fun c2 => ?_⟩, fun c => absurd c (by decide)⟩)
  · have := hq1 h1 c1 e
    rw [clV_none d _ (Nat.le_refl _)] at this
    exact this
  · have := hq1 h1 c1 e
    rw [clV_first hi c d _ (Nat.le_refl _) (by omega), if_pos c2, ← g1] at this
    exact this
  · have := hq1 h1 c1 e
    rw [clV_first hi c d _ (Nat.le_refl _) (by omega), if_neg c2, ← g2] at this
    exact this
/-! once -/
def clN (W G b : Nat) : Prop := ∀ i, i < (G + 1) ^ W → ldF (wcF W G (nI b).toInt64) allP i = i
theorem horF_dig {G i : Nat} (hG : G ≤ 9) : ∀ (n acc : Nat) (x : Int64), x.toInt = acc → acc * (G + 1) ^ n + i % (G + 1) ^ n < 1000000 → (horF (fun k => nI (figW G i k)) (nI (G + 1)).toInt64 n x).toInt = ((acc * (G + 1) ^ n + i % (G + 1) ^ n : Nat) : Int)
  | 0, acc, x, e, _ => by
    show x.toInt = _
    rw [e, Nat.pow_zero, Nat.mul_one, Nat.mod_one, Nat.add_zero]
  | n + 1, acc, x, e, hb => by
    have hs : i % (G + 1) ^ (n + 1) = figW G i n * (G + 1) ^ n + i % (G + 1) ^ n := by
      unfold figW
      rw [Nat.pow_succ, Nat.mod_mul, Nat.add_comm, Nat.mul_comm]
    have hf : figW G i n < G + 1 := Nat.mod_lt _ (by omega)
    have ht : acc * (G + 1) ^ (n + 1) + i % (G + 1) ^ (n + 1) = (acc * (G + 1) + figW G i n) * (G + 1) ^ n + i % (G + 1) ^ n := by
      rw [hs, Nat.pow_succ, Nat.add_mul, Nat.mul_comm ((G + 1) ^ n) (G + 1), ← Nat.mul_assoc]
      omega
    rw [ht] at hb ⊢
    have hpw : 0 < (G + 1) ^ n := Nat.pow_pos (by omega)
    have hacc : acc * (G + 1) + figW G i n < 1000000 := Nat.lt_of_le_of_lt (Nat.le_trans (Nat.le_mul_of_pos_right _ hpw) (Nat.le_add_right _ _)) hb
    have e1 : (nI (G + 1)).toInt64.toInt = ((G + 1 : Nat) : Int) := by rw [tL_int, n_toInt (by omega)]
    have e2 : (nI (figW G i n)).toInt64.toInt = (figW G i n : Nat) := by rw [tL_int, n_toInt (by omega)]
    have em : x.toInt * (nI (G + 1)).toInt64.toInt = ((acc * (G + 1) : Nat) : Int) := by rw [e, e1]; rfl
    have e3 : (x * (nI (G + 1)).toInt64).toInt = ((acc * (G + 1) : Nat) : Int) := by rw [tL_mul (by rw [em]; omega) (by rw [em]; omega), em]
    have e4 : (x * (nI (G + 1)).toInt64 + (nI (figW G i n)).toInt64).toInt = ((acc * (G + 1) + figW G i n : Nat) : Int) := by rw [tL_add (by rw [e3, e2]; omega) (by rw [e3, e2]; omega), e3, e2]; rfl
    exact horF_dig hG n _ _ e4 hb
theorem clN_ex {W G : Nat} (ok : okW W G) : clN W G (G + 1) := by
  obtain ⟨o1, o2, o3, o4⟩ := ok
  have hM := pow_W (G := G) (j := W) o4 o2
  have hv : ∀ i, i < (G + 1) ^ W → (wcV W G i (nI (G + 1)).toInt64).toInt = i := fun i hi => by
    unfold wcV
    rw [horF_dig o4 W 0 0 rfl (by rw [Nat.mod_eq_of_lt hi]; omega), Nat.mod_eq_of_lt hi, Nat.zero_mul, Nat.zero_add]
  intro i hi
  unfold ldF
  cases hs : Sf (wcF W G (nI (G + 1)).toInt64) allP i (wcF W G (nI (G + 1)).toInt64 i) with
  | none => rfl
  | some l =>
    obtain ⟨h1, _, h3⟩ := Sf_some i hs
    have h3 : wcV W G l (nI (G + 1)).toInt64 = wcV W G i (nI (G + 1)).toInt64 := h3
    have := congrArg Int64.toInt h3
    rw [hv l (by omega), hv i hi] at this
    omega
theorem c_once {h : hp} {W G : Nat} {Q : Int32 → hp → Prop} (a : cWld h W G) (ok : okW W G) (hq : ∀ b h1, isMin (clN W G) b → eqE cScr h h1 → Q (nI b) h1) : w_X11_once h Q := by
  obtain ⟨b, hb⟩ := isMin_ex (P := clN W G) (G + 1) ⟨G + 1, clN_ex ok, Nat.le_refl _⟩
  have hb10 := hb.2 _ (clN_ex ok)
  obtain ⟨o1, o2, o3, o4⟩ := id ok
  have hM := pow_W (G := G) (j := W) o4 o2
  unfold w_X11_once w_X11_once_0 w_X11_once_2
  intro X hX
  have key : ∀ (n i : Nat) (g : hp), n + i = b → eqE cScr h g → X (nI i, g) := by
    intro n
    induction n with
    | zero =>
      intro i g hi xg
      have ei : i = b := by omega
      subst ei
      apply hX
      refine ⟨fun c => absurd c (nI_nlt (b := i) (a := 999) (by omega) (by omega)), fun _ => c_clashing (cWld_e xg a) ok (fun h1 x1 => ?_)⟩
      show (¬ clV (wcF W G (nI i).toInt64) _ 1 _ = -2 → _) ∧ (clV (wcF W G (nI i).toInt64) _ 1 _ = -2 → _)
      rw [clV_none hb.1 _ (Nat.le_refl _)]
      exact ⟨fun c => absurd rfl c, fun _ => hq i h1 hb (eqE_trans xg x1)⟩
    | succ n ih =>
      intro i g hi xg
      apply hX
      refine ⟨fun c => absurd c (nI_nlt (b := i) (a := 999) (by omega) (by omega)), fun _ => c_clashing (cWld_e xg a) ok (fun h1 x1 => ?_)⟩
      have nb : ¬ clN W G i := fun q => by have := hb.2 i q; omega
      rcases clV_in (f := wcF W G (nI i).toInt64) (y := 1) hM _ (Nat.le_refl _) with q | ⟨i2, j2, h1', h2', h3', h4', h5'⟩
      · exact absurd (fun k hk => q.2 k (by omega) hk) nb
      · refine ⟨fun _ u eu => ?_, fun c => absurd c ?_⟩
        · have eu : u = nI i + 1 := eu
          rw [← nI_succ] at eu
          subst eu
          exact ih (i + 1) h1 (by omega) (eqE_trans xg x1)
        · show ¬ clV (wcF W G (nI i).toInt64) _ 1 _ = -2
          rw [h5', if_neg (by decide)]
          intro q
          have := congrArg Int32.toInt q
          rw [n_toInt (by omega), show (-2 : Int32).toInt = -2 from rfl] at this
          omega
  exact key b 0 h (by omega) (eqE_refl h)
theorem m_once {h : hp} {s W G : Nat} {Q : Int32 → hp → Prop} (t : mAt h s) (a : mWld s h W G) (ok : okW W G) (hq : ∀ b h1, isMin (clN W G) b → eqE mScr h h1 → Q (nI b) h1) : w_X12_once h Q := by
  obtain ⟨b, hb⟩ := isMin_ex (P := clN W G) (G + 1) ⟨G + 1, clN_ex ok, Nat.le_refl _⟩
  have hb10 := hb.2 _ (clN_ex ok)
  obtain ⟨o1, o2, o3, o4⟩ := id ok
  unfold w_X12_once w_X12_once_0 w_X12_once_2
  intro X hX
  have key : ∀ (n i : Nat) (g : hp), n + i = b → eqE mScr h g → X (nI i, g) := by
    intro n
    induction n with
    | zero =>
      intro i g hi xg
      have ei : i = b := by omega
      subst ei
      apply hX
      exact m_clashes (mAt_e xg t) (mWld_e xg a) ok (fun h1 _ x1 => ⟨fun _ => hq i h1 hb (eqE_trans xg x1), fun c => absurd rfl c⟩) (fun k h1 hk c _ _ _ _ => absurd (hb.1 k hk) c)
    | succ n ih =>
      intro i g hi xg
      have nb : ¬ clN W G i := fun q => by have := hb.2 i q; omega
      apply hX
      refine m_clashes (mAt_e xg t) (mWld_e xg a) ok (fun h1 d x1 => absurd d nb) (fun k h1 hk c _ x1 _ _ => ⟨fun q => absurd q (by decide), fun _ u eu => ?_⟩)
      have eu : u = nI i + 1 := eu
      rw [← nI_succ] at eu
      subst eu
      exact ih (i + 1) h1 (by omega) (eqE_trans xg x1)
  exact key b 0 h (by omega) (eqE_refl h)
/-! places that are not nought -/
def nzF (G i : Nat) : Nat → Nat
  | 0 => 0
  | k + 1 => nzF G i k + (if figW G i k = 0 then 0 else 1)
theorem nzF_le (G i : Nat) : ∀ k, nzF G i k ≤ k
  | 0 => Nat.le_refl 0
  | k + 1 => by
    have := nzF_le G i k
    unfold nzF
    split <;> omega
def cNz (h : hp) (W G : Nat) : Prop := ∀ i, i < (G + 1) ^ W → gI h 66 i = nI (nzF G i W)
theorem cNz_e {h h1 : hp} {W G : Nat} (e : eqE cScr h h1) (a : cNz h W G) : cNz h1 W G := fun i hi => by rw [eqE_I e (by unfold cScr; omega)]; exact a i hi
theorem m_fullPlaces {h : hp} {s W G i : Nat} {Q : Int32 → Prop} (t : mAt h s) (a : mWld s h W G) (ok : okW W G) (hi : i < 2147483648) (hq : Q (nI (nzF G i W))) : w_X12_fullPlaces h (nI i) Q := by
  obtain ⟨o1, o2, o3, o4⟩ := id ok
  have hs := t.2
  have eW : gI h 19 (ix (gI h 0 18)) = nI W := by rw [t.1, ix_n (by omega), a.1]
  have hin : vp_in (gI h 0 18) 2 := by rw [t.1]; exact in_n hs (by omega)
  unfold w_X12_fullPlaces w_X12_fullPlaces_0 w_X12_fullPlaces_4
  intro X hX
  have key : ∀ n k : Nat, n + k = W → X (nI (nzF G i k), nI k) := by
    intro n
    induction n with
    | zero =>
      intro k hk
      have ek : k = W := by omega
      subst ek
      apply hX
      unfold w_X12_fullPlaces_b4
      rw [eW]
      exact ⟨hin, fun _ => hq, fun c => absurd (nI_le (Nat.le_refl _) (by omega)) c⟩
    | succ n ih =>
      intro k hk
      have nxt := ih (k + 1) (by omega)
      have hz := nzF_le G i k
      have hf : figW G i k < G + 1 := Nat.mod_lt _ (by omega)
      apply hX
      unfold w_X12_fullPlaces_b4
      rw [eW]
      refine ⟨hin, fun c => absurd c (nI_ge (by omega) (by omega)), fun _ => m_figureOf t a ok hi (by omega) ⟨fun c u eu => ?_, fun c v ev u eu => ?_⟩⟩
      · have c := (nI_eq (a := figW G i k) (b := 0) (by omega) (by omega)).mp c
        rw [← nI_succ] at eu
        subst eu
        unfold nzF at nxt
        rw [if_pos c] at nxt
        exact nxt
      · have c : ¬ figW G i k = 0 := fun q => c (by rw [q]; rfl)
        have ev : v = nI (nzF G i k) + 1 := ev
        rw [← nI_succ] at eu ev
        subst eu ev
        unfold nzF at nxt
        rw [if_neg c] at nxt
        exact nxt
  exact key W 0 (by omega)
/-! few -/
noncomputable def ifC {α : Type} (p : Prop) (a b : α) : α := @ite α p (Classical.propDecidable p) a b
theorem ifC_pos {α : Type} {p : Prop} {a b : α} (h : p) : ifC p a b = a := by
  unfold ifC
  exact if_pos h
theorem ifC_neg {α : Type} {p : Prop} {a b : α} (h : ¬ p) : ifC p a b = b := by
  unfold ifC
  exact if_neg h
abbrev nzP (W G s i : Nat) : Prop := nzF G i W ≤ s
def pgK (W G : Nat) (gr : Nat → Nat) (b : Int64) (i : Nat) : Int64 := (nI (gr i)).toInt64 * 10000 + wcV W G i b
def pgG (W G s : Nat) (gr : Nat → Nat) (b : Int64) (i : Nat) : Nat := if nzP W G s i then ldF (pgK W G gr b) (nzP W G s) i else gr i
def grF (W G s : Nat) : Nat → Nat → Nat
  | 0 => fun _ => 0
  | n + 1 => pgG W G s (grF W G s n) (nI (n + 1)).toInt64
theorem grF_le (W G s : Nat) : ∀ n i, grF W G s n i ≤ i
  | 0, i => Nat.zero_le i
  | n + 1, i => by
    show pgG W G s (grF W G s n) (nI (n + 1)).toInt64 i ≤ i
    unfold pgG
    split
    · exact ldF_le
    · exact grF_le W G s n i
def aloneN (W G s n : Nat) : Prop := ∀ i, i < (G + 1) ^ W → nzP W G s i → grF W G s n i = i
noncomputable def fewV (W G s : Nat) : Nat → Int32
  | 0 => -2
  | k + 1 => ifC (aloneN W G s (9 - k)) (nI (9 - k)) (fewV W G s k)
theorem c_part {h : hp} {W G s : Nat} {gr : Nat → Nat} {x : Int32} {Q : Int32 → hp → Prop} (a : cWld h W G) (nz : cNz h W G) (ok : okW W G) (hs : s ≤ 4) (hgr : ∀ i, gr i ≤ i) (ag : ∀ i, i < (G + 1) ^ W → gI h 67 i = nI (gr i)) (hq : ∀ r h1, eqE cScr h h1 → (∀ i, i < (G + 1) ^ W → gI h1 67 i = nI (pgG W G s gr x.toInt64 i)) → (r = 1 ∧ ∀ i, i < (G + 1) ^ W → nzP W G s i → pgG W G s gr x.toInt64 i = i) ∨ (r = 0 ∧ ¬ ∀ i, i < (G + 1) ^ W → nzP W G s i → pgG W G s gr x.toInt64 i = i) → Q r h1) : w_X10_partGroups h x (nI s) Q := by
  obtain ⟨o1, o2, o3, o4⟩ := id ok
  have hM := pow_W (G := G) (j := W) o4 o2
  unfold w_X10_partGroups w_X10_partGroups_0
  refine c_comeBy a ok (fun h1 x1 v1 => ?_)
  have a1 := (cWld_v x1 a).2.1
  have n1 : cNz h1 W G := cNz_e (eqE_w vScr_c x1) nz
  have g1 : ∀ i, i < (G + 1) ^ W → gI h1 67 i = nI (gr i) := fun i hi => by rw [eqE_I x1 (by unfold vScr; omega)]; exact ag i hi
  rw [a1]
  unfold cVal at v1
  unfold cNz at n1
  have ag := True.intro
  generalize hMe : (G + 1) ^ W = M at hM a1 v1 n1 g1 hq
  refine c_clear hM (fun z h2 hz hmz t2 x2 => ?_)
  have x02 : eqE cScr h h2 := eqE_trans (eqE_w vScr_c x1) (eqE_w tScr_c x2)
  -- what stands all along
  have a2 : gI h2 64 1 = nI M ∧ (∀ i, i < M → gL h2 65 i = wcV W G i x.toInt64) ∧ (∀ i, i < M → gI h2 66 i = nI (nzF G i W)) := ⟨by rw [eqE_I x2 (by unfold tScr; omega)]; exact a1, fun i hi => by rw [eqE_L x2 (by unfold tScr; omega)]; exact v1 i hi, fun i hi => by rw [eqE_I x2 (by unfold tScr; omega)]; exact n1 i hi⟩
  have g2 : ∀ i, i < M → gI h2 67 i = nI (gr i) := fun i hi => by rw [eqE_I x2 (by unfold tScr; omega)]; exact g1 i hi
  have a1 := True.intro
  have v1 := True.intro
  have n1 := True.intro
  have g1 := True.intro
  unfold w_X10_partGroups_22
  intro X hX
  have key : ∀ (n i : Nat) (r : Int32) (g : hp), n + i = M → eqE cScr h g → (gI g 64 1 = nI M ∧ (∀ i, i < M → gL g 65 i = wcV W G i x.toInt64) ∧ (∀ i, i < M → gI g 66 i = nI (nzF G i W))) → cTab z g (Sf (pgK W G gr x.toInt64) (nzP W G s) i) i → (∀ j, j < M → gI g 67 j = nI (if j < i then pgG W G s gr x.toInt64 j else gr j)) → ((r = 1 ∧ ∀ j, j < i → nzP W G s j → pgG W G s gr x.toInt64 j = j) ∨ (r = 0 ∧ ∃ j, j < i ∧ nzP W G s j ∧ ¬ pgG W G s gr x.toInt64 j = j)) → X (r, nI i, g) := by
    intro n
    induction n with
    | zero =>
      intro i r g hi xg ag tg gg hr
      have ei : i = M := by omega
      subst ei
      apply hX
      unfold w_X10_partGroups_b22
      rw [ag.1]
      refine ⟨fun _ => ⟨?_, hq r g xg (fun j hj => by rw [gg j hj, if_pos hj]) ?_⟩, fun c => absurd (nI_le (Nat.le_refl _) (by omega)) c⟩
      · rcases hr with q | q
        · show isZ r
          rw [q.1]; exact ⟨rfl, rfl⟩
        · show isZ r
          rw [q.1]; exact isZ_0
      · rcases hr with q | ⟨q, j, h1, h2, h3⟩
        · exact Or.inl q
        · exact Or.inr ⟨q, fun w => h3 (w j h1 h2)⟩
    | succ n ih =>
      intro i r g hi xg ag tg gg hr
      apply hX
      unfold w_X10_partGroups_b22
      have hin : vp_in (nI i) 10000 := in_n (by omega) (by omega)
      have hnz := nzF_le G i W
      have g67 : gI g 67 i = nI (gr i) := by rw [gg i (by omega), if_neg (by omega)]
      rw [ag.1, ix_n (by omega), ag.2.2 i (by omega), ag.2.1 i (by omega), g67]
      have step : ∀ (r' : Int32) (g' : hp), eqE cScr h g' → (gI g' 64 1 = nI M ∧ (∀ i, i < M → gL g' 65 i = wcV W G i x.toInt64) ∧ (∀ i, i < M → gI g' 66 i = nI (nzF G i W))) → cTab z g' (Sf (pgK W G gr x.toInt64) (nzP W G s) (i + 1)) (i + 1) → (∀ j, j < M → gI g' 67 j = nI (if j < i + 1 then pgG W G s gr x.toInt64 j else gr j)) → ((r' = r ∧ (nzP W G s i → pgG W G s gr x.toInt64 i = i)) ∨ (r' = 0 ∧ nzP W G s i ∧ ¬ pgG W G s gr x.toInt64 i = i)) → X (r', nI (i + 1), g') := by
        intro r' g' xg' ag' tg' gg' hr'
        refine ih (i + 1) r' g' (by omega) xg' ag' tg' gg' ?_
        rcases hr' with ⟨e, q⟩ | ⟨e, q1, q2⟩
        · subst e
          rcases hr with ⟨w1, w2⟩ | ⟨w1, j, w2, w3⟩
          · refine Or.inl ⟨w1, fun j hj hp => ?_⟩
            rcases Nat.lt_or_ge j i with c | c
            · exact w2 j c hp
            · have e : j = i := by omega
              subst e
              exact q hp
          · exact Or.inr ⟨w1, j, by omega, w3⟩
        · exact Or.inr ⟨e, i, by omega, q1, q2⟩
      refine ⟨fun c => absurd c (nI_ge (by omega) (by omega)), fun _ => ⟨hin, fun c u eu => ?_, fun c => ⟨hin, hin, ?_⟩⟩⟩
      · rw [nI_ltI (by omega) (by omega)] at c
        rw [← nI_succ] at eu
        subst eu
        have nP : ¬ nzP W G s i := by show ¬ nzF G i W ≤ s; omega
        refine step r g xg ag ?_ (fun j hj => ?_) (Or.inl ⟨rfl, fun q => absurd q nP⟩)
        · rw [Sf_skip nP]; exact cTab_up tg (by omega)
        · rw [gg j hj]
          by_cases c1 : j < i
          · rw [if_pos c1, if_pos (show j < i + 1 by omega)]
          · rw [if_neg c1]
            by_cases c2 : j < i + 1
            · rw [if_pos c2]
              have e : j = i := by omega
              subst e
              unfold pgG
              rw [if_neg nP]
            · rw [if_neg c2]
      · rw [nI_ltI (by omega) (by omega)] at c
        have hP : nzP W G s i := by show nzF G i W ≤ s; omega
        have eG : pgG W G s gr x.toInt64 i = ldF (pgK W G gr x.toInt64) (nzP W G s) i := by unfold pgG; rw [if_pos hP]
        have hle := ldF_le (f := pgK W G gr x.toInt64) (P := nzP W G s) (i := i)
        refine c_leadS (f := pgK W G gr x.toInt64) (P := nzP W G s) hz tg (by omega) hP (fun h6 t6 x6 => ⟨hin, fun h8 e8 => ?_⟩)
        rw [← eG] at e8 hle
        have x8 : eqE cScr h h8 := by rw [e8]; exact eqE_sI (eqE_trans xg (eqE_w tScr_c x6)) (by unfold cScr; omega)
        have e8a : gI h8 67 i = nI (pgG W G s gr x.toInt64 i) := by rw [e8]; exact gI_at _ _ _ _
        have a8 : gI h8 64 1 = nI M ∧ (∀ i, i < M → gL h8 65 i = wcV W G i x.toInt64) ∧ (∀ i, i < M → gI h8 66 i = nI (nzF G i W)) := by
          refine ⟨?_, fun j hj => ?_, fun j hj => ?_⟩
          · rw [e8, gI_o _ _ (by decide), eqE_I x6 (by unfold tScr; omega)]; exact ag.1
          · rw [e8, gL_sI, eqE_L x6 (by unfold tScr; omega)]; exact ag.2.1 j hj
          · rw [e8, gI_o _ _ (by decide), eqE_I x6 (by unfold tScr; omega)]; exact ag.2.2 j hj
        have t8 : cTab z h8 (Sf (pgK W G gr x.toInt64) (nzP W G s) (i + 1)) (i + 1) := by
          have f1 : ∀ p, gI h8 70 p = gI h6 70 p := fun p => by rw [e8, gI_o _ _ (by decide)]
          have f2 : gL h8 69 = gL h6 69 := by rw [e8]; rfl
          unfold cTab
          rw [f2]
          simp only [f1]
          exact ⟨by rw [e8, gI_o _ _ (by decide)]; exact t6.1, t6.2⟩
        have g8 : ∀ j, j < M → gI h8 67 j = nI (if j < i + 1 then pgG W G s gr x.toInt64 j else gr j) := fun j hj => by
          by_cases c1 : j = i
          · rw [if_pos (show j < i + 1 by omega), c1]; exact e8a
          · rw [e8, gI_k _ _ c1, eqE_I x6 (by unfold tScr; omega), gg j hj]
            by_cases c2 : j < i
            · rw [if_pos c2, if_pos (show j < i + 1 by omega)]
            · rw [if_neg c2, if_neg (show ¬ j < i + 1 by omega)]
        rw [e8a]
        clear e8
        refine ⟨fun c0 u eu => ?_, fun c0 => ⟨hin, fun c1 u eu => ?_, fun c1 u eu => ?_⟩⟩
        · rw [← nI_succ] at eu
          subst eu
          by_cases c2 : pgG W G s gr x.toInt64 i = i
          · have er : r = 0 := c0
            exact step 0 h8 x8 a8 t8 g8 (Or.inl ⟨er.symm, fun _ => c2⟩)
          · exact step 0 h8 x8 a8 t8 g8 (Or.inr ⟨rfl, hP, c2⟩)
        · rw [← nI_succ] at eu
          subst eu
          exact step 0 h8 x8 a8 t8 g8 (Or.inr ⟨rfl, hP, fun q => c1 (congrArg nI q)⟩)
        · rw [← nI_succ] at eu
          subst eu
          have c1 := (nI_eq (by omega) (by omega)).mp c1
          have er : r = 1 := by
            rcases hr with q | q
            · exact q.1
            · exact absurd q.1 c0
          exact step 1 h8 x8 a8 t8 g8 (Or.inl ⟨er.symm, fun _ => c1⟩)
  refine key M 0 1 h2 (by omega) x02 a2 t2 (fun j hj => by rw [if_neg (by omega)]; exact g2 j hj) (Or.inl ⟨rfl, fun j hj => by omega⟩)
theorem c_fillW {a n : Nat} {h : hp} {x : Int32} {Q : hp → Prop} (hn : n < 2147483648) (hq : Q (fillI a x h n)) : w_J7_fill_53178 a n h x Q := by
  unfold w_J7_fill_53178 w_J7_fill_53178_0
  intro y ey
  subst ey
  unfold w_J7_fill_53178_5
  intro X hX
  have key : ∀ m k : Nat, m + k = n → X (nI k, fillI a x h k) := by
    intro m
    induction m with
    | zero =>
      intro k hk
      have ek : k = n := by omega
      subst ek
      apply hX
      exact ⟨fun _ => hq, fun c => absurd (nI_le (Nat.le_refl _) (by omega)) c⟩
    | succ m ih =>
      intro k hk
      apply hX
      refine ⟨fun c => absurd c (nI_ge (by omega) (by omega)), fun _ => ⟨in_n (by omega) (by omega), fun h3 e3 y ey => ?_⟩⟩
      have e3 : h3 = sI (fillI a x h k) a (ix (nI k)) x := e3
      have ey : y = nI k + 1 := ey
      rw [ix_n (by omega)] at e3
      rw [← nI_succ] at ey
      rw [e3, ey]
      exact ih (k + 1) (by omega)
  exact key n 0 (by omega)
theorem c_few {h : hp} {W G : Nat} {x : Int32} {Q : Int32 → hp → Prop} (a : cWld h W G) (nz : cNz h W G) (ok : okW W G) (hq1 : ∀ h1, 0 ≤ x.toInt ∧ x.toInt ≤ 4 → eqE cScr h h1 → Q (fewV W G x.toInt.toNat 9) h1) (hq0 : ¬ (0 ≤ x.toInt ∧ x.toInt ≤ 4) → Q (-1) h) : w_X11_few h x Q := by
  obtain ⟨o1, o2, o3, o4⟩ := id ok
  have hM := pow_W (G := G) (j := W) o4 o2
  unfold w_X11_few w_X11_few_0
  refine c_within (fun c1 => ⟨fun q => absurd q (by decide), fun _ => ?_⟩) (fun c1 => ⟨fun _ => hq0 (fun q => c1 (by rw [tL_int]; exact q)), fun q => absurd rfl q⟩)
  rw [tL_int] at c1
  have hq := fun h1 => hq1 h1 c1
  have c1 : 0 ≤ x.toInt ∧ x.toInt ≤ 4 := c1
  obtain ⟨ex, hx⟩ := n_of c1.1
  have hs4 : x.toInt.toNat ≤ 4 := by omega
  generalize x.toInt.toNat = s at ex hx hs4 hq
  have hq1 := True.intro
  have hq0 := True.intro
  subst ex
  unfold w_X10_fewestNumbers w_X10_fewestNumbers_0
  refine c_fillW (by omega) ?_
  have x1 : eqE cScr h (fillI 67 0 h 10000) := eqE_fill (eqE_refl h) (fun j _ => by unfold cScr; omega)
  have g1 : ∀ i, i < (G + 1) ^ W → gI (fillI 67 0 h 10000) 67 i = nI (grF W G s 0 i) := fun i hi => by rw [fillI_I, if_pos ⟨rfl, by omega⟩]; rfl
  generalize fillI 67 0 h 10000 = h1 at x1 g1
  unfold w_X10_fewestNumbers_10
  intro X hX
  have key : ∀ (n : Nat) (g : hp), n ≤ 9 → eqE cScr h g → (∀ i, i < (G + 1) ^ W → gI g 67 i = nI (grF W G s (9 - n) i)) → (∀ h1, eqE cScr h h1 → Q (fewV W G s n) h1) → X (nI (10 - n), g) := by
    intro n
    induction n with
    | zero =>
      intro g _ xg gg hq
      apply hX
      exact ⟨fun _ => hq g xg, fun c => absurd (show (9 : Int32) < nI 10 by decide) c⟩
    | succ n ih =>
      intro g hn xg gg hq
      unfold fewV at hq
      apply hX
      refine ⟨fun c => absurd c (nI_nlt (b := 10 - (n + 1)) (a := 9) (by omega) (by omega)), fun _ => ?_⟩
      refine c_part (cWld_e xg a) (cNz_e xg nz) ok hs4 (grF_le W G s (9 - (n + 1))) gg (fun r h3 x3 g3 hr => ?_)
      have ee : ∀ i, pgG W G s (grF W G s (9 - (n + 1))) (nI (10 - (n + 1))).toInt64 i = grF W G s (9 - n) i := fun i => by
        rw [show 9 - n = 9 - (n + 1) + 1 from by omega, show 10 - (n + 1) = 9 - (n + 1) + 1 from by omega]
        rfl
      have hr : (r = 1 ∧ aloneN W G s (9 - n)) ∨ (r = 0 ∧ ¬ aloneN W G s (9 - n)) := by
        unfold aloneN
        simp only [← ee]
        exact hr
      rcases hr with ⟨q1, q2⟩ | ⟨q1, q2⟩
      · subst q1
        refine ⟨fun c => absurd c (by decide), fun _ => ?_⟩
        have := hq h3 (eqE_trans xg x3)
        rw [ifC_pos q2] at this
        show Q (nI (10 - (n + 1))) h3
        rw [show 10 - (n + 1) = 9 - n from by omega]
        exact this
      · subst q1
        refine ⟨fun _ u eu => ?_, fun c => absurd rfl c⟩
        have eu : u = nI (10 - (n + 1)) + 1 := eu
        rw [← nI_succ, show 10 - (n + 1) + 1 = 10 - n from by omega] at eu
        subst eu
        refine ih h3 (by omega) (eqE_trans xg x3) (fun i hi => ?_) (fun h4 x4 => ?_)
        · rw [← ee]; exact g3 i hi
        · have := hq h4 x4
          rw [ifC_neg q2] at this
          exact this
  exact key 9 h1 (Nat.le_refl _) x1 g1 hq
theorem m_few {h : hp} {v W G : Nat} {x : Int32} {Q : Int32 → hp → Prop} (t : mAt h v) (a : mWld v h W G) (ok : okW W G) (hq1 : ∀ h1, 0 ≤ x.toInt ∧ x.toInt ≤ 4 → eqE mScr h h1 → Q (fewV W G x.toInt.toNat 9) h1) (hq0 : ¬ (0 ≤ x.toInt ∧ x.toInt ≤ 4) → Q (-1) h) : w_X12_few h x Q := by
  obtain ⟨o1, o2, o3, o4⟩ := id ok
  have hM := pow_W (G := G) (j := W) o4 o2
  unfold w_X12_few w_X12_few_0
  refine m_in (fun c1 => ⟨fun _ => ?_, fun q => absurd q (by decide)⟩) (fun c1 => ⟨fun q => absurd rfl q, fun _ => hq0 (fun q => c1 (by rw [tL_int]; exact q))⟩)
  rw [tL_int] at c1
  have hq := fun h1 => hq1 h1 c1
  have c1 : 0 ≤ x.toInt ∧ x.toInt ≤ 4 := c1
  obtain ⟨ex, hx⟩ := n_of c1.1
  have hs4 : x.toInt.toNat ≤ 4 := by omega
  generalize x.toInt.toNat = s at ex hx hs4 hq
  have hq1 := True.intro
  have hq0 := True.intro
  subst ex
  have wa : ∀ {R : Int32 → Prop} {g : hp}, eqE mScr h g → R (nI ((G + 1) ^ W)) → w_X12_worldAll g R := fun eg hr => m_worldAll (mAt_e eg t) (mWld_e eg a) ok hr
  -- the numbers
  have part : ∀ g : hp, eqE mScr h g → (∀ j, j < (G + 1) ^ W → gI g 37 j = if nzP W G s j then nI (grF W G s 0 j) else -1) → w_X12_few_52 Q 1 g := by
    intro g xg gg
    unfold w_X12_few_52
    intro X hX
    have key : ∀ (n : Nat) (g : hp), n ≤ 9 → eqE mScr h g → (∀ j, j < (G + 1) ^ W → gI g 37 j = if nzP W G s j then nI (grF W G s (9 - n) j) else -1) → (∀ h1, eqE mScr h h1 → Q (fewV W G s n) h1) → X (nI (10 - n), g) := by
      intro n
      induction n with
      | zero =>
        intro g _ xg gg hq
        apply hX
        exact ⟨fun _ => hq g xg, fun c => absurd (show (10 : Int32) ≤ nI 10 by decide) c⟩
      | succ n ih =>
        intro g hn xg gg hq
        unfold fewV at hq
        apply hX
        refine ⟨fun c => absurd c (nI_ge (b := 10) (a := 10 - (n + 1)) (by omega) (by omega)), fun _ => m_clears (fun h13 t13 _ x13 => ?_)⟩
        have x13 : eqE mtScr g h13 := x13
        have g13 : ∀ j, j < (G + 1) ^ W → gI h13 37 j = if nzP W G s j then nI (grF W G s (9 - (n + 1)) j) else -1 := fun j hj => by rw [eqE_I x13 (by unfold mtScr; omega)]; exact gg j hj
        have x13 := eqE_trans xg (eqE_w mtScr_m x13)
        have hgl := grF_le W G s (9 - (n + 1))
        have eGn : grF W G s (9 - n) = pgG W G s (grF W G s (9 - (n + 1))) (nI (10 - (n + 1))).toInt64 := by
          rw [show 9 - n = 9 - (n + 1) + 1 from by omega, show 10 - (n + 1) = 9 - (n + 1) + 1 from by omega]
          rfl
        have ih2 : ∀ g : hp, eqE mScr h g → (∀ j, j < (G + 1) ^ W → gI g 37 j = if nzP W G s j then nI (pgG W G s (grF W G s (9 - (n + 1))) (nI (10 - (n + 1))).toInt64 j) else -1) → ¬ aloneN W G s (9 - n) → X (nI (10 - n), g) := fun g xg gg na => ih g (by omega) xg (by rw [eGn]; exact gg) (fun h1 x1 => by
          have := hq h1 x1
          rw [ifC_neg na] at this
          exact this)
        have fin : ∀ g : hp, eqE mScr h g → aloneN W G s (9 - n) → Q (nI (10 - (n + 1))) g := fun g xg al => by
          have := hq g xg
          rw [ifC_pos al, show 9 - n = 10 - (n + 1) from by omega] at this
          exact this
        unfold aloneN at ih2 fin
        rw [eGn] at ih2 fin
        have ih := True.intro
        have hq := True.intro
        have hMe : (G + 1) ^ W ≤ 10000 := hM
        generalize grF W G s (9 - (n + 1)) = gr at g13 hgl ih2 fin
        show w_X12_few_67 Q X (nI (10 - (n + 1))) 0 0 h13
        have e10 : nI (10 - (n + 1)) + 1 = nI (10 - n) := by rw [← nI_succ]; congr 1; omega
        generalize nI (10 - (n + 1)) = b at ih2 fin e10
        unfold w_X12_few_67
        intro Y hY
        generalize (G + 1) ^ W = M at wa g13 ih2 fin hMe
        have key2 : ∀ (m i : Nat) (r : Int32) (g : hp), m + i = M → eqE mScr h g → mTab g (Sf (pgK W G gr b.toInt64) (nzP W G s) i) i → (∀ j, j < M → gI g 37 j = if nzP W G s j then nI (if j < i then pgG W G s gr b.toInt64 j else gr j) else -1) → ((r = 0 ∧ ∀ j, j < i → nzP W G s j → pgG W G s gr b.toInt64 j = j) ∨ (r = 1 ∧ ∃ j, j < i ∧ nzP W G s j ∧ ¬ pgG W G s gr b.toInt64 j = j)) → Y (r, nI i, g) := by
          intro m
          induction m with
          | zero =>
            intro i r g hi xg tg gg hr
            have ei : i = M := by omega
            subst ei
            apply hY
            have gg' : ∀ j, j < i → gI g 37 j = if nzP W G s j then nI (pgG W G s gr b.toInt64 j) else -1 := fun j hj => by rw [gg j hj, if_pos hj]
            refine wa xg ⟨fun _ => ⟨fun c u eu => ?_, fun c => ?_⟩, fun c => absurd (nI_le (Nat.le_refl _) (by omega)) c⟩
            · rw [e10] at eu
              subst eu
              refine ih2 g xg gg' ?_
              rcases hr with q | ⟨q, j, h1, h2, h3⟩
              · exact absurd q.1 c
              · exact fun w => h3 (w j h1 h2)
            · refine fin g xg ?_
              rcases hr with q | q
              · exact q.2
              · have c : r = 0 := c
                rw [q.1] at c
                exact absurd c (by decide)
          | succ m ih3 =>
            intro i r g hi xg tg gg hr
            apply hY
            have hin : vp_in (nI i) 10000 := in_n (by omega) (by omega)
            refine wa xg ⟨fun c => absurd c (nI_ge (by omega) (by omega)), fun _ => ⟨hin, ?_⟩⟩
            show (0 ≤ gI g 37 (ix (nI i)) → _) ∧ (¬ 0 ≤ gI g 37 (ix (nI i)) → _)
            rw [ix_n (by omega), gg i (by omega)]
            by_cases hP : nzP W G s i
            · have hgi := hgl i
              rw [if_pos hP, if_neg (Nat.lt_irrefl i)]
              refine ⟨fun _ => ⟨hin, m_worldComes (mAt_e xg t) (mWld_e xg a) ok (by omega) ?_⟩, fun c => absurd (nI_pos' (by omega)) c⟩
              have eG : pgG W G s gr b.toInt64 i = ldF (pgK W G gr b.toInt64) (nzP W G s) i := by unfold pgG; rw [if_pos hP]
              have hle := ldF_le (f := pgK W G gr b.toInt64) (P := nzP W G s) (i := i)
              rw [Int64.mul_comm]
              refine m_leadS (f := pgK W G gr b.toInt64) (P := nzP W G s) tg (by omega) hP (fun p h22 hp22 t22 e35 x22 => ⟨in_n hp22 (by omega), fun u eu => ?_⟩)
              rw [ix_n (by omega), e35, ← eG] at eu
              rw [← eG] at hle
              subst eu
              have put : ∀ r' : Int32, ((r' = r ∧ pgG W G s gr b.toInt64 i = i) ∨ (r' = 1 ∧ ¬ pgG W G s gr b.toInt64 i = i)) → w_X12_few_139 Q X Y b (nI i) (nI (pgG W G s gr b.toInt64 i)) h22 r' := by
                intro r' hr'
                refine ⟨hin, fun h28 e28 w ew => ?_⟩
                rw [ix_n (by omega)] at e28
                rw [← nI_succ] at ew
                subst ew
                refine ih3 (i + 1) r' h28 (by omega) ?_ ?_ (fun j hj => ?_) ?_
                · rw [e28]; exact eqE_sI (eqE_trans xg (eqE_w mtScr_m x22)) (by unfold mScr; omega)
                · have f1 : ∀ p, gI h28 35 p = gI h22 35 p := fun p => by rw [e28, gI_o _ _ (by decide)]
                  have f2 : gL h28 34 = gL h22 34 := by rw [e28]; rfl
                  unfold mTab
                  rw [f2]
                  simp only [f1]
                  exact t22
                · by_cases c1 : j = i
                  · subst c1
                    rw [if_pos hP, if_pos (Nat.lt_succ_self j), e28]
                    exact gI_at _ _ _ _
                  · rw [e28, gI_k _ _ c1, eqE_I x22 (by unfold mtScr; omega), gg j hj]
                    by_cases c2 : j < i
                    · rw [if_pos c2, if_pos (show j < i + 1 by omega)]
                    · rw [if_neg c2, if_neg (show ¬ j < i + 1 by omega)]
                · rcases hr' with ⟨e, q⟩ | ⟨e, q⟩
                  · subst e
                    rcases hr with ⟨w1, w2⟩ | ⟨w1, j, w2, w3⟩
                    · refine Or.inl ⟨w1, fun j hj hp => ?_⟩
                      rcases Nat.lt_or_ge j i with c | c
                      · exact w2 j c hp
                      · have e : j = i := by omega
                        subst e
                        exact q
                    · exact Or.inr ⟨w1, j, by omega, w3⟩
                  · exact Or.inr ⟨e, i, by omega, hP, q⟩
              refine ⟨fun c => put 1 ?_, fun c => ⟨fun c2 => put 0 ?_, fun c2 => put 1 ?_⟩⟩
              · have er : r = 1 := by
                  rcases hr with q | q
                  · exact absurd q.1 c
                  · exact q.1
                by_cases c2 : pgG W G s gr b.toInt64 i = i
                · exact Or.inl ⟨er.symm, c2⟩
                · exact Or.inr ⟨rfl, c2⟩
              · have c : r = 0 := c
                exact Or.inl ⟨c.symm, (nI_eq (by omega) (by omega)).mp c2⟩
              · exact Or.inr ⟨rfl, fun q => c2 (congrArg nI q)⟩
            · rw [if_neg hP]
              refine ⟨fun c => absurd c (by decide), fun _ u eu => ?_⟩
              rw [← nI_succ] at eu
              subst eu
              refine ih3 (i + 1) r g (by omega) xg (by rw [Sf_skip hP]; exact mTab_up tg (by omega)) (fun j hj => ?_) ?_
              · rw [gg j hj]
                by_cases c1 : nzP W G s j
                · rw [if_pos c1, if_pos c1]
                  by_cases c2 : j < i
                  · rw [if_pos c2, if_pos (show j < i + 1 by omega)]
                  · have : ¬ j = i := fun q => hP (by rw [← q]; exact c1)
                    rw [if_neg c2, if_neg (show ¬ j < i + 1 by omega)]
                · rw [if_neg c1, if_neg c1]
              · rcases hr with ⟨w1, w2⟩ | ⟨w1, j, w2, w3⟩
                · refine Or.inl ⟨w1, fun j hj hp => ?_⟩
                  rcases Nat.lt_or_ge j i with c | c
                  · exact w2 j c hp
                  · exact absurd (by rw [show i = j from by omega]; exact hp) hP
                · exact Or.inr ⟨w1, j, by omega, w3⟩
        exact key2 M 0 0 h13 (by omega) x13 t13 (fun j hj => by rw [g13 j hj]; rfl) (Or.inl ⟨rfl, fun j hj => by omega⟩)
    exact key 9 g (Nat.le_refl _) xg gg hq
  -- who counts
  unfold w_X12_few_16
  intro X hX
  have key : ∀ (n i : Nat) (g : hp), n + i = (G + 1) ^ W → eqE mScr h g → (∀ j, j < i → gI g 37 j = if nzP W G s j then nI (grF W G s 0 j) else -1) → X (nI i, g) := by
    intro n
    induction n with
    | zero =>
      intro i g hi xg gg
      have ei : i = (G + 1) ^ W := by omega
      apply hX
      refine wa xg ⟨fun _ => part g xg (by rw [← ei]; exact gg), fun c => absurd ?_ c⟩
      show nI ((G + 1) ^ W) ≤ nI i
      rw [ei]
      exact nI_le (Nat.le_refl _) (by omega)
    | succ n ih =>
      intro i g hi xg gg
      have hnz := nzF_le G i W
      apply hX
      refine wa xg ⟨fun c => absurd c (nI_ge (by omega) (by omega)), fun _ => m_fullPlaces (mAt_e xg t) (mWld_e xg a) ok (by omega) ?_⟩
      have put : ∀ y : Int32, y = (if nzP W G s i then nI (grF W G s 0 i) else -1) → w_X12_few_43 Q X (nI s) (nI i) g y (nI i) := by
        intro y ey
        refine ⟨in_n (by omega) (by omega), fun h10 e10 u eu => ?_⟩
        rw [ix_n (by omega)] at e10
        rw [← nI_succ] at eu
        subst eu
        refine ih (i + 1) h10 (by omega) ?_ (fun j hj => ?_)
        · rw [e10]; exact eqE_sI xg (by unfold mScr; omega)
        · by_cases c : j = i
          · subst c
            rw [e10, gI_at]
            exact ey
          · rw [e10, gI_k _ _ c]
            exact gg j (by omega)
      refine ⟨fun c => put (-1) ?_, fun c => put 0 ?_⟩
      · have c := (nI_ltI (a := s) (b := nzF G i W) (by omega) (by omega)).mp c
        rw [if_neg (show ¬ nzF G i W ≤ s by omega)]
      · have c : ¬ s < nzF G i W := fun q => c (nI_lt q (by omega))
        rw [if_pos (show nzF G i W ≤ s by omega)]
        rfl
  exact key ((G + 1) ^ W) 0 h (by omega) (eqE_refl h) (fun j hj => by omega)
/-! those that fit -/
def cn (P : Nat → Bool) : Nat → Nat
  | 0 => 0
  | i + 1 => cn P i + (if P i = true then 1 else 0)
theorem cn_le (P : Nat → Bool) : ∀ i, cn P i ≤ i
  | 0 => Nat.le_refl 0
  | i + 1 => by
    have := cn_le P i
    unfold cn
    split <;> omega
theorem cn_mono (P : Nat → Bool) {i j : Nat} (h : i ≤ j) : cn P i ≤ cn P j := by
  induction j with
  | zero => rw [show i = 0 from by omega]; exact Nat.le_refl _
  | succ j ih =>
    rcases Nat.lt_or_ge j i with q | q
    · rw [show i = j + 1 from by omega]; exact Nat.le_refl _
    · have := ih q
      show cn P i ≤ cn P j + _
      omega
theorem cn_lt {P : Nat → Bool} {i j : Nat} (h : i < j) (hp : P i = true) : cn P i < cn P j := by
  have := cn_mono P (show i + 1 ≤ j from h)
  have e : cn P (i + 1) = cn P i + 1 := by
    show cn P i + _ = _
    rw [if_pos hp]
  omega
theorem cn_inj {P : Nat → Bool} {i j : Nat} (hi : P i = true) (hj : P j = true) (h : cn P i = cn P j) : i = j := by
  rcases Nat.lt_trichotomy i j with q | q | q
  · have := cn_lt q hi; omega
  · exact q
  · have := cn_lt q hj; omega
theorem cn_surj {P : Nat → Bool} {q : Nat} : ∀ n, q < cn P n → ∃ i, i < n ∧ P i = true ∧ cn P i = q
  | 0, h => absurd h (by unfold cn; omega)
  | n + 1, h => by
    rcases Nat.lt_or_ge q (cn P n) with c | c
    · obtain ⟨i, h1, h2⟩ := cn_surj n c
      exact ⟨i, by omega, h2⟩
    · have h : q < cn P n + (if P n = true then 1 else 0) := h
      by_cases hp : P n = true
      · rw [if_pos hp] at h
        exact ⟨n, Nat.lt_succ_self n, hp, by omega⟩
      · rw [if_neg hp] at h; omega
theorem cn_sub {P P' : Nat → Bool} (h : ∀ i, P' i = true → P i = true) : ∀ i, cn P' i ≤ cn P i
  | 0 => Nat.le_refl 0
  | i + 1 => by
    have := cn_sub h i
    show cn P' i + _ ≤ cn P i + _
    by_cases c : P' i = true
    · rw [if_pos c, if_pos (h i c)]; omega
    · rw [if_neg c]; omega
def wrN (W G : Nat) (A : Nat → Int32) (B : Nat → Int64) : Nat → Nat → Nat
  | 0, _ => 0
  | t + 1, i => wrN W G A B t i + (if wcV W G i (A t).toInt64 = B t then 0 else 1)
theorem wrN_le (W G : Nat) (A : Nat → Int32) (B : Nat → Int64) (i : Nat) : ∀ t, wrN W G A B t i ≤ t
  | 0 => Nat.le_refl 0
  | t + 1 => by
    have := wrN_le W G A B i t
    unfold wrN
    split <;> omega
def fitB (W G s w : Nat) (A : Nat → Int32) (B : Nat → Int64) (t i : Nat) : Bool := decide (nzF G i W ≤ s ∧ wrN W G A B t i ≤ w)
theorem fitB_t {W G s w : Nat} {A : Nat → Int32} {B : Nat → Int64} {t i : Nat} : fitB W G s w A B t i = true ↔ nzF G i W ≤ s ∧ wrN W G A B t i ≤ w := by
  unfold fitB
  exact decide_eq_true_iff
def cFit (h : hp) (P : Nat → Bool) (M : Nat) : Prop := gI h 71 1 = nI (cn P M) ∧ ∀ i, i < M → P i = true → gI h 72 (cn P i) = nI i
def mFit (h : hp) (P : Nat → Bool) (M : Nat) : Prop := ∀ i, i < M → gI h 40 i = if P i = true then 1 else 0
/-- one answer more -/
theorem c_dropWrong {h : hp} {W G s w t : Nat} {A : Nat → Int32} {B : Nat → Int64} {Q : hp → Prop} (ok : okW W G) (hw : w ≤ 20) (ht : t < 20) (vl : cVal h W G (A t).toInt64) (fi : cFit h (fitB W G s w A B t) ((G + 1) ^ W)) (ta : ∀ i, i < (G + 1) ^ W → fitB W G s w A B t i = true → gI h 73 i = nI (wrN W G A B t i)) (hq : ∀ h1, eqE cScr h h1 → cFit h1 (fitB W G s w A B (t + 1)) ((G + 1) ^ W) → (∀ i, i < (G + 1) ^ W → fitB W G s w A B (t + 1) i = true → gI h1 73 i = nI (wrN W G A B (t + 1) i)) → Q h1) : w_X1_dropWrong h (B t) (nI w) Q := by
  obtain ⟨o1, o2, o3, o4⟩ := id ok
  have hM := pow_W (G := G) (j := W) o4 o2
  unfold w_X1_dropWrong w_X1_dropWrong_0 w_X1_dropWrong_6
  intro X hX
  unfold cVal at vl
  generalize (G + 1) ^ W = M at hM vl fi ta hq
  have sub : ∀ i, fitB W G s w A B (t + 1) i = true → fitB W G s w A B t i = true := fun i hi => by
    have := fitB_t.mp hi
    refine fitB_t.mpr ⟨this.1, Nat.le_trans ?_ this.2⟩
    show _ ≤ wrN W G A B t i + _
    omega
  have key : ∀ (n j : Nat) (g : hp), n + j = M → eqE cScr h g → gI g 71 1 = nI (cn (fitB W G s w A B t) M) → (∀ i, i < M → gL g 65 i = wcV W G i (A t).toInt64) → (∀ i, j ≤ i → i < M → fitB W G s w A B t i = true → gI g 72 (cn (fitB W G s w A B t) i) = nI i ∧ gI g 73 i = nI (wrN W G A B t i)) → (∀ i, i < j → fitB W G s w A B (t + 1) i = true → gI g 72 (cn (fitB W G s w A B (t + 1)) i) = nI i ∧ gI g 73 i = nI (wrN W G A B (t + 1) i)) → X (nI (cn (fitB W G s w A B (t + 1)) j), nI (cn (fitB W G s w A B t) j), g) := by
    intro n
    induction n with
    | zero =>
      intro j g hj xg mg vg ug pg
      have ej : j = M := by omega
      subst ej
      have hc := cn_le (fitB W G s w A B t) j
      apply hX
      unfold w_X1_dropWrong_b6
      rw [mg]
      refine ⟨fun _ h2 e2 => ?_, fun c => absurd (nI_le (Nat.le_refl _) (by omega)) c⟩
      have e2 : h2 = sI g 71 1 (nI (cn (fitB W G s w A B (t + 1)) j)) := e2
      subst e2
      refine hq _ (eqE_sI xg (by unfold cScr; omega)) ⟨gI_at _ _ _ _, fun i hi hp => ?_⟩ (fun i hi hp => ?_)
      · rw [gI_o _ _ (by decide)]; exact (pg i hi hp).1
      · rw [gI_o _ _ (by decide)]; exact (pg i hi hp).2
    | succ n ih =>
      intro j g hj xg mg vg ug pg
      by_cases pj : fitB W G s w A B t j = true
      · have hc := cn_le (fitB W G s w A B t) M
        have hlt := cn_lt (P := fitB W G s w A B t) (show j < M by omega) pj
        have hcs := cn_sub sub j
        obtain ⟨u1, u2⟩ := ug j (Nat.le_refl _) (by omega) pj
        have hwr := wrN_le W G A B j t
        have hfit := fitB_t.mp pj
        have in1 : vp_in (nI (cn (fitB W G s w A B t) j)) 10000 := in_n (by omega) (by omega)
        have in2 : vp_in (nI j) 10000 := in_n (by omega) (by omega)
        have ec : cn (fitB W G s w A B t) (j + 1) = cn (fitB W G s w A B t) j + 1 := by
          show cn (fitB W G s w A B t) j + _ = _
          rw [if_pos pj]
        have nxt := ih (j + 1)
        rw [ec] at nxt
        -- behind the tally
        have fin : ∀ (g' : hp), eqE cScr h g' → gI g' 71 1 = nI (cn (fitB W G s w A B t) M) → (∀ i, i < M → gL g' 65 i = wcV W G i (A t).toInt64) → (∀ i, j ≤ i → i < M → fitB W G s w A B t i = true → gI g' 72 (cn (fitB W G s w A B t) i) = nI i) → (∀ i, j < i → i < M → fitB W G s w A B t i = true → gI g' 73 i = nI (wrN W G A B t i)) → (∀ i, i < j → fitB W G s w A B (t + 1) i = true → gI g' 72 (cn (fitB W G s w A B (t + 1)) i) = nI i ∧ gI g' 73 i = nI (wrN W G A B (t + 1) i)) → gI g' 73 j = nI (wrN W G A B (t + 1) j) → w_X1_dropWrong_50 Q X (B t) (nI w) (nI (cn (fitB W G s w A B (t + 1)) j)) (nI (cn (fitB W G s w A B t) j)) (nI j) g' := by
          intro g' xg' mg' vg' ug1 ug2 pg' tj
          have hwr2 := wrN_le W G A B j (t + 1)
          unfold w_X1_dropWrong_50
          rw [ix_n (n := j) (by omega), tj]
          refine ⟨in2, fun c y ey => ?_, fun c => ⟨in_n (by omega) (by omega), fun h8 e8 z ez y ey => ?_⟩⟩
          · have c := (nI_ltI (a := w) (b := wrN W G A B (t + 1) j) (by omega) (by omega)).mp c
            rw [← nI_succ] at ey
            subst ey
            have np : ¬ fitB W G s w A B (t + 1) j = true := fun q => by have := (fitB_t.mp q).2; omega
            have ec2 : cn (fitB W G s w A B (t + 1)) (j + 1) = cn (fitB W G s w A B (t + 1)) j := by
              show cn (fitB W G s w A B (t + 1)) j + _ = _
              rw [if_neg np, Nat.add_zero]
            rw [ec2] at nxt
            refine nxt g' (by omega) xg' mg' vg' (fun i h1 h2 h3 => ⟨ug1 i (by omega) h2 h3, ug2 i (by omega) h2 h3⟩) (fun i h1 h2 => ?_)
            rcases Nat.lt_or_ge i j with q | q
            · exact pg' i q h2
            · exact absurd (by rw [show j = i from by omega]; exact h2) np
          · have c : ¬ w < wrN W G A B (t + 1) j := fun q => c (nI_lt q (by omega))
            have pp : fitB W G s w A B (t + 1) j = true := fitB_t.mpr ⟨hfit.1, by omega⟩
            have ec2 : cn (fitB W G s w A B (t + 1)) (j + 1) = cn (fitB W G s w A B (t + 1)) j + 1 := by
              show cn (fitB W G s w A B (t + 1)) j + _ = _
              rw [if_pos pp]
            rw [ec2] at nxt
            rw [← nI_succ] at ey ez
            rw [ix_n (by omega)] at e8
            subst ey ez
            refine nxt h8 (by omega) ?_ ?_ (fun i hi => ?_) (fun i h1 h2 h3 => ?_) (fun i h1 h2 => ?_)
            · rw [e8]; exact eqE_sI xg' (by unfold cScr; omega)
            · rw [e8, gI_o _ _ (by decide)]; exact mg'
            · rw [e8, gL_sI]; exact vg' i hi
            · have hl := cn_lt (P := fitB W G s w A B t) (show j < i by omega) pj
              rw [e8, gI_k _ _ (by omega), gI_o _ _ (by decide)]
              exact ⟨ug1 i (by omega) h2 h3, ug2 i (by omega) h2 h3⟩
            · rcases Nat.lt_or_ge i j with q | q
              · have hl := cn_lt (P := fitB W G s w A B (t + 1)) q h2
                rw [e8, gI_k _ _ (by omega), gI_o _ _ (by decide)]
                exact pg' i q h2
              · have e : i = j := by omega
                subst e
                rw [e8, gI_at, gI_o _ _ (by decide)]
                exact ⟨rfl, tj⟩
        apply hX
        unfold w_X1_dropWrong_b6
        rw [mg]
        refine ⟨fun c => absurd c (nI_ge (by omega) (by omega)), fun _ => ⟨in1, fun y ey => ?_⟩⟩
        rw [ix_n (by omega), u1] at ey
        subst ey
        rw [ix_n (by omega), vg j (by omega)]
        refine ⟨in2, fun c => ?_, fun c => ⟨in2, in2, fun h5 e5 => ?_⟩⟩
        · refine fin g xg mg vg (fun i h1 h2 h3 => (ug i h1 h2 h3).1) (fun i h1 h2 h3 => (ug i (by omega) h2 h3).2) pg ?_
          rw [u2]
          show nI (wrN W G A B t j) = nI (wrN W G A B t j + _)
          rw [if_pos c, Nat.add_zero]
        · rw [u2, ← nI_succ] at e5
          refine fin h5 ?_ ?_ (fun i hi => ?_) (fun i h1 h2 h3 => ?_) (fun i h1 h2 h3 => ?_) (fun i h1 h2 => ?_) ?_
          · rw [e5]; exact eqE_sI xg (by unfold cScr; omega)
          · rw [e5, gI_o _ _ (by decide)]; exact mg
          · rw [e5, gL_sI]; exact vg i hi
          · rw [e5, gI_o _ _ (by decide)]; exact (ug i h1 h2 h3).1
          · rw [e5, gI_k _ _ (by omega)]; exact (ug i (by omega) h2 h3).2
          · rw [e5, gI_o _ _ (by decide), gI_k _ _ (by omega)]; exact pg i h1 h2
          · rw [e5, gI_at]
            show nI (wrN W G A B t j + 1) = nI (wrN W G A B t j + _)
            rw [if_neg c]
      · have e1 : cn (fitB W G s w A B t) (j + 1) = cn (fitB W G s w A B t) j := by
          show cn (fitB W G s w A B t) j + _ = _
          rw [if_neg pj, Nat.add_zero]
        have np : ¬ fitB W G s w A B (t + 1) j = true := fun q => pj (sub j q)
        have e2 : cn (fitB W G s w A B (t + 1)) (j + 1) = cn (fitB W G s w A B (t + 1)) j := by
          show cn (fitB W G s w A B (t + 1)) j + _ = _
          rw [if_neg np, Nat.add_zero]
        have := ih (j + 1) g (by omega) xg mg vg (fun i h1 h2 h3 => ug i (by omega) h2 h3) (fun i h1 h2 => by
          rcases Nat.lt_or_ge i j with q | q
          · exact pg i q h2
          · exact absurd (by rw [show j = i from by omega]; exact h2) np)
        rw [e1, e2] at this
        exact this
  exact key M 0 h (by omega) (eqE_refl h) fi.1 vl (fun i _ h2 h3 => ⟨fi.2 i h2 h3, ta i h2 h3⟩) (fun i hi => by omega)
theorem c_select {h : hp} {W G s w k D : Nat} {A : Nat → Int32} {B : Nat → Int64} {Q : hp → Prop} (a : cWld h W G) (nz : cNz h W G) (ok : okW W G) (d : cTold 51 h D A B) (hD : D ≤ 20) (hk : k ≤ D) (hw : w ≤ 20) (hs : s ≤ 4) (hq : ∀ h1, eqE cScr h h1 → cFit h1 (fitB W G s w A B k) ((G + 1) ^ W) → Q h1) : w_X1_select 51 h (nI k) (nI w) (nI s) Q := by
  obtain ⟨o1, o2, o3, o4⟩ := id ok
  have hM := pow_W (G := G) (j := W) o4 o2
  unfold w_X1_select w_X1_select_0
  intro h1 e1
  have x1 : eqE cScr h h1 := by rw [e1]; exact eqE_sI (eqE_refl h) (by unfold cScr; omega)
  have m1 : gI h1 71 1 = nI 0 := by rw [e1]; exact gI_at _ _ _ _
  clear e1
  -- the answers
  have ans : ∀ g : hp, eqE cScr h g → cFit g (fitB W G s w A B 0) ((G + 1) ^ W) → (∀ i, i < (G + 1) ^ W → fitB W G s w A B 0 i = true → gI g 73 i = nI (wrN W G A B 0 i)) → w_X1_select_73 51 Q (nI k) (nI w) 0 g := by
    intro g xg fg tg
    unfold w_X1_select_73
    intro X hX
    have key : ∀ (n t : Nat) (g : hp), n + t = k → eqE cScr h g → cFit g (fitB W G s w A B t) ((G + 1) ^ W) → (∀ i, i < (G + 1) ^ W → fitB W G s w A B t i = true → gI g 73 i = nI (wrN W G A B t i)) → X (nI t, g) := by
      intro n
      induction n with
      | zero =>
        intro t g ht xg fg tg
        have et : t = k := by omega
        subst et
        apply hX
        exact ⟨fun _ => hq g xg fg, fun c => absurd (nI_le (Nat.le_refl _) (by omega)) c⟩
      | succ n ih =>
        intro t g ht xg fg tg
        have dg := cTold_e xg d
        have in1 : vp_in (nI t) 20 := in_n (by omega) (by omega)
        apply hX
        unfold w_X1_select_b73
        rw [ix_n (by omega), (dg.2 t (by omega)).1]
        refine ⟨fun c => absurd c (nI_ge (by omega) (by omega)), fun _ => ⟨in1, c_comeBy (cWld_e xg a) ok (fun h10 x10 v10 => ⟨in1, ?_⟩)⟩⟩
        have xc := eqE_w vScr_c x10
        rw [(cTold_e xc dg).2 t (by omega) |>.2]
        refine c_dropWrong (s := s) ok hw (by omega) v10 ⟨?_, fun i hi hp => ?_⟩ (fun i hi hp => ?_) (fun h11 x11 f11 t11 u eu => ?_)
        · rw [eqE_I x10 (by unfold vScr; omega)]; exact fg.1
        · rw [eqE_I x10 (by unfold vScr; omega)]; exact fg.2 i hi hp
        · rw [eqE_I x10 (by unfold vScr; omega)]; exact tg i hi hp
        · rw [← nI_succ] at eu
          subst eu
          exact ih (t + 1) h11 (by omega) (eqE_trans (eqE_trans xg xc) x11) f11 t11
    exact key k 0 g (by omega) xg fg tg
  -- all that have few places
  unfold w_X1_select_8
  intro X hX
  have key : ∀ (n j : Nat) (g : hp), n + j = (G + 1) ^ W → eqE cScr h g → cFit g (fitB W G s w A B 0) j → (∀ i, i < j → fitB W G s w A B 0 i = true → gI g 73 i = 0) → X (nI j, g) := by
    intro n
    induction n with
    | zero =>
      intro j g hj xg fg tg
      have ej : j = (G + 1) ^ W := by omega
      apply hX
      refine ⟨fun _ => ans g xg (by rw [← ej]; exact fg) (by rw [← ej]; exact tg), fun c => absurd ?_ c⟩
      show gI g 64 1 ≤ nI j
      rw [(cWld_e xg a).2.1, ej]
      exact nI_le (Nat.le_refl _) (by omega)
    | succ n ih =>
      intro j g hj xg fg tg
      have hnz := nzF_le G j W
      have hc := cn_le (fitB W G s w A B 0) j
      have in1 : vp_in (nI j) 10000 := in_n (by omega) (by omega)
      apply hX
      unfold w_X1_select_b8
      rw [(cWld_e xg a).2.1, ix_n (n := j) (by omega), cNz_e xg nz j (by omega), fg.1]
      refine ⟨fun c => absurd c (nI_ge (by omega) (by omega)), fun _ => ⟨in1, fun c u eu => ?_, fun c => ⟨in_n (by omega) (by omega), fun h5 e5 => ⟨in1, fun h6 e6 h7 e7 u eu => ?_⟩⟩⟩⟩
      · have c := (nI_ltI (a := s) (b := nzF G j W) (by omega) (by omega)).mp c
        have np : ¬ fitB W G s w A B 0 j = true := fun q => by have := (fitB_t.mp q).1; omega
        rw [← nI_succ] at eu
        subst eu
        refine ih (j + 1) g (by omega) xg ⟨?_, fun i hi hp => ?_⟩ (fun i hi hp => ?_)
        · show _ = nI (cn (fitB W G s w A B 0) j + _)
          rw [if_neg np, Nat.add_zero]; exact fg.1
        · rcases Nat.lt_or_ge i j with q | q
          · exact fg.2 i q hp
          · exact absurd (by rw [show j = i from by omega]; exact hp) np
        · rcases Nat.lt_or_ge i j with q | q
          · exact tg i q hp
          · exact absurd (by rw [show j = i from by omega]; exact hp) np
      · have c : ¬ s < nzF G j W := fun q => c (nI_lt q (by omega))
        have pp : fitB W G s w A B 0 j = true := fitB_t.mpr ⟨by omega, Nat.zero_le _⟩
        rw [ix_n (by omega)] at e5
        have g71 : gI h6 71 1 = nI (cn (fitB W G s w A B 0) j) := by rw [e6, gI_o _ _ (by decide), e5, gI_o _ _ (by decide)]; exact fg.1
        rw [g71, ← nI_succ] at e7
        rw [← nI_succ] at eu
        subst eu
        have xh : eqE cScr h h7 := by rw [e7, e6, e5]; exact eqE_sI (eqE_sI (eqE_sI xg (by unfold cScr; omega)) (by unfold cScr; omega)) (by unfold cScr; omega)
        refine ih (j + 1) h7 (by omega) xh ⟨?_, fun i hi hp => ?_⟩ (fun i hi hp => ?_)
        · show _ = nI (cn (fitB W G s w A B 0) j + _)
          rw [if_pos pp, e7]; exact gI_at _ _ _ _
        · rw [e7, gI_o _ _ (by decide), e6, gI_o _ _ (by decide), e5]
          rcases Nat.lt_or_ge i j with q | q
          · have hl := cn_lt (P := fitB W G s w A B 0) q hp
            rw [gI_k _ _ (by omega)]
            exact fg.2 i q hp
          · rw [show i = j from by omega]
            exact gI_at _ _ _ _
        · rw [e7, gI_o _ _ (by decide), e6]
          rcases Nat.lt_or_ge i j with q | q
          · rw [gI_k _ _ (by omega), e5, gI_o _ _ (by decide)]
            exact tg i q hp
          · rw [show i = j from by omega]
            exact gI_at _ _ _ _
  exact key ((G + 1) ^ W) 0 h1 (by omega) x1 ⟨m1, fun i hi => by omega⟩ (fun i hi => by omega)
abbrev isC (D : Nat) (k w s : Int32) : Prop := (0 ≤ k.toInt ∧ k.toInt ≤ (D : Int)) ∧ (0 ≤ w.toInt ∧ w.toInt ≤ 20) ∧ 0 ≤ s.toInt ∧ s.toInt ≤ 4
/-- the predicate of those that fit -/
abbrev fitX (W G : Nat) (A : Nat → Int32) (B : Nat → Int64) (k w s : Int32) : Nat → Bool := fitB W G s.toInt.toNat w.toInt.toNat A B k.toInt.toNat
theorem c_choose {h : hp} {W G D : Nat} {A : Nat → Int32} {B : Nat → Int64} {k w s : Int32} {Q : Int32 → hp → Prop} (a : cWld h W G) (nz : cNz h W G) (ok : okW W G) (d : cTold 51 h D A B) (hD : D ≤ 20) (hq1 : ∀ h1, isC D k w s → eqE cScr h h1 → cFit h1 (fitX W G A B k w s) ((G + 1) ^ W) → Q 1 h1) (hq0 : ¬ isC D k w s → Q 0 h) : w_X11_choose h k w s Q := by
  unfold w_X11_choose w_X11_choose_0
  have eD := n_toInt (n := D) (by omega)
  refine c_within (fun c1 => ⟨fun q => absurd q (by decide), fun _ => ?_⟩) (fun c1 => ⟨fun _ => hq0 (fun q => c1 ?_), fun q => absurd rfl q⟩)
  · rw [tL_int, tL_int, d.1, eD] at c1
    have c1 : 0 ≤ k.toInt ∧ k.toInt ≤ (D : Int) := c1
    refine c_within (fun c2 => ⟨fun q => absurd q (by decide), fun _ => ?_⟩) (fun c2 => ⟨fun _ => hq0 (fun q => c2 (by rw [tL_int]; exact q.2.1)), fun q => absurd rfl q⟩)
    rw [tL_int] at c2
    have c2 : 0 ≤ w.toInt ∧ w.toInt ≤ 20 := c2
    refine c_within (fun c3 => ⟨fun _ => ?_, fun q => absurd q (by decide)⟩) (fun c3 => ⟨fun q => absurd rfl q, fun _ => hq0 (fun q => c3 (by rw [tL_int]; exact q.2.2))⟩)
    rw [tL_int] at c3
    have c3 : 0 ≤ s.toInt ∧ s.toInt ≤ 4 := c3
    have hq := fun h1 => hq1 h1 ⟨c1, c2, c3⟩
    have hq1 := True.intro
    have hq0 := True.intro
    obtain ⟨ek, hk⟩ := n_of c1.1
    obtain ⟨ew, hw⟩ := n_of c2.1
    obtain ⟨es, hs⟩ := n_of c3.1
    rw [ek, ew, es]
    exact c_select a nz ok d hD (by omega) (by omega) (by omega) hq
  · rw [tL_int, tL_int, d.1, eD]; exact q.1
theorem m_isAsked {h : hp} {D : Nat} {A : Nat → Int32} {B : Nat → Int64} {k w s : Int32} {Q : Int32 → Prop} (d : mTold h D A B) (hD : D ≤ 20) (hq1 : isC D k w s → Q 1) (hq0 : ¬ isC D k w s → Q 0) : w_X12_isAsked h k w s Q := by
  unfold w_X12_isAsked w_X12_isAsked_0
  have eD := n_toInt (n := D) (by omega)
  refine m_in (fun c1 => ⟨fun q => absurd q (by decide), fun _ => ?_⟩) (fun c1 => ⟨fun _ => hq0 (fun q => c1 ?_), fun q => absurd rfl q⟩)
  · rw [tL_int, tL_int, d.1, eD] at c1
    refine m_in (fun c2 => ⟨fun q => absurd q (by decide), fun _ => ?_⟩) (fun c2 => ⟨fun _ => hq0 (fun q => c2 (by rw [tL_int]; exact q.2.1)), fun q => absurd rfl q⟩)
    rw [tL_int] at c2
    refine m_in (fun c3 => ⟨fun q => absurd q (by decide), fun _ => ?_⟩) (fun c3 => ⟨fun _ => hq0 (fun q => c3 (by rw [tL_int]; exact q.2.2)), fun q => absurd rfl q⟩)
    rw [tL_int] at c3
    exact hq1 ⟨c1, c2, c3⟩
  · rw [tL_int, tL_int, d.1, eD]; exact q.1
theorem m_isRight {h : hp} {v W G D i k : Nat} {A : Nat → Int32} {B : Nat → Int64} {Q : Int32 → Prop} (t : mAt h v) (a : mWld v h W G) (ok : okW W G) (d : mTold h D A B) (hD : D ≤ 20) (hi : i < 2147483648) (hk : k < D) (hq1 : wcV W G i (A k).toInt64 = B k → Q 1) (hq0 : ¬ wcV W G i (A k).toInt64 = B k → Q 0) : w_X12_isRight h (nI i) (nI k) Q := by
  unfold w_X12_isRight w_X12_isRight_0
  rw [ix_n (by omega), (d.2 k hk).1]
  refine ⟨in_n (by omega) (by omega), m_worldComes t a ok hi ⟨in_n (by omega) (by omega), ?_⟩⟩
  rw [(d.2 k hk).2]
  exact ⟨fun c => hq0 c, fun c => hq1 c⟩
theorem m_isFit {h : hp} {v W G D i k w s : Nat} {A : Nat → Int32} {B : Nat → Int64} {Q : Int32 → Prop} (t : mAt h v) (a : mWld v h W G) (ok : okW W G) (d : mTold h D A B) (hD : D ≤ 20) (hi : i < 2147483648) (hk : k ≤ D) (hw : w ≤ 20) (hs : s ≤ 4) (hq1 : fitB W G s w A B k i = true → Q 1) (hq0 : ¬ fitB W G s w A B k i = true → Q 0) : w_X12_isFit h (nI i) (nI k) (nI w) (nI s) Q := by
  unfold w_X12_isFit w_X12_isFit_0
  have hnz := nzF_le G i W
  have hW4 := ok.2.1
  refine m_fullPlaces t a ok hi ⟨fun c => ?_, fun c => hq0 (fun q => c (nI_le (fitB_t.mp q).1 (by omega)))⟩
  have c := (nI_leI (a := nzF G i W) (b := s) (by omega) (by omega)).mp c
  unfold w_X12_isFit_18
  intro X hX
  have key : ∀ n t' : Nat, n + t' = k → X (nI (wrN W G A B t' i), nI t') := by
    intro n
    induction n with
    | zero =>
      intro t' ht
      have et : t' = k := by omega
      subst et
      have hwr := wrN_le W G A B i t'
      apply hX
      refine ⟨fun _ => ⟨fun c2 => hq0 (fun q => ?_), fun c2 => hq1 (fitB_t.mpr ⟨c, ?_⟩)⟩, fun c2 => absurd (nI_le (Nat.le_refl _) (by omega)) c2⟩
      · have c2 := (nI_ltI (a := w) (b := wrN W G A B t' i) (by omega) (by omega)).mp c2
        have := (fitB_t.mp q).2
        omega
      · have : ¬ w < wrN W G A B t' i := fun q => c2 (nI_lt q (by omega))
        omega
    | succ n ih =>
      intro t' ht
      have nxt := ih (t' + 1) (by omega)
      apply hX
      refine ⟨fun c2 => absurd c2 (nI_ge (by omega) (by omega)), fun _ => m_isRight t a ok d hD hi (by omega) (fun c2 => ⟨fun _ u eu => ?_, fun q => absurd q (by decide)⟩) (fun c2 => ⟨fun q => absurd rfl q, fun _ y ey u eu => ?_⟩)⟩
      · have eu : u = nI t' + 1 := eu
        rw [← nI_succ] at eu
        subst eu
        unfold wrN at nxt
        rw [if_pos c2, Nat.add_zero] at nxt
        exact nxt
      · have eu : u = nI t' + 1 := eu
        have ey : y = nI (wrN W G A B t' i) + 1 := ey
        rw [← nI_succ] at eu ey
        subst eu ey
        unfold wrN at nxt
        rw [if_neg c2] at nxt
        exact nxt
  exact key k 0 (by omega)
theorem m_fillsFits {h : hp} {v W G D k w s : Nat} {A : Nat → Int32} {B : Nat → Int64} {Q : Int32 → hp → Prop} (t : mAt h v) (a : mWld v h W G) (ok : okW W G) (d : mTold h D A B) (hD : D ≤ 20) (hk : k ≤ D) (hw : w ≤ 20) (hs : s ≤ 4) (hq : ∀ h1, eqE mScr h h1 → mFit h1 (fitB W G s w A B k) ((G + 1) ^ W) → Q (nI (cn (fitB W G s w A B k) ((G + 1) ^ W))) h1) : w_X12_fillsFits h (nI k) (nI w) (nI s) Q := by
  obtain ⟨o1, o2, o3, o4⟩ := id ok
  have hM := pow_W (G := G) (j := W) o4 o2
  unfold w_X12_fillsFits w_X12_fillsFits_0 w_X12_fillsFits_6
  intro X hX
  have wa : ∀ {R : Int32 → Prop} {g : hp}, eqE mScr h g → R (nI ((G + 1) ^ W)) → w_X12_worldAll g R := fun eg hr => m_worldAll (mAt_e eg t) (mWld_e eg a) ok hr
  generalize (G + 1) ^ W = M at hM wa hq
  have key : ∀ (n i : Nat) (g : hp), n + i = M → eqE mScr h g → mFit g (fitB W G s w A B k) i → X (nI (cn (fitB W G s w A B k) i), nI i, g) := by
    intro n
    induction n with
    | zero =>
      intro i g hi xg fg
      have ei : i = M := by omega
      subst ei
      apply hX
      exact wa xg ⟨fun _ => hq g xg fg, fun c => absurd (nI_le (Nat.le_refl _) (by omega)) c⟩
    | succ n ih =>
      intro i g hi xg fg
      have in1 : vp_in (nI i) 10000 := in_n (by omega) (by omega)
      apply hX
      have st : ∀ (r : Int32) (g' : hp), r = (if fitB W G s w A B k i = true then 1 else 0) → g' = sI g 40 i r → eqE mScr h g' ∧ mFit g' (fitB W G s w A B k) (i + 1) := by
        intro r g' er eg
        refine ⟨by rw [eg]; exact eqE_sI xg (by unfold mScr; omega), fun j hj => ?_⟩
        rw [eg]
        by_cases e : j = i
        · subst e
          rw [gI_at]; exact er
        · rw [gI_k _ _ e]; exact fg j (by omega)
      refine wa xg ⟨fun c => absurd c (nI_ge (by omega) (by omega)), fun _ => m_isFit (mAt_e xg t) (mWld_e xg a) ok (mTold_e xg d) hD (by omega) hk hw hs (fun hp => ⟨in1, fun h6 e6 => ⟨in1, ?_⟩⟩) (fun hp => ⟨in1, fun h6 e6 => ⟨in1, ?_⟩⟩)⟩
      · have e6 : h6 = sI g 40 (ix (nI i)) (jz 1) := e6
        rw [ix_n (by omega), show jz 1 = 1 from by decide] at e6
        obtain ⟨s1, s2⟩ := st 1 h6 (by rw [if_pos hp]) e6
        show (gI h6 40 (ix (nI i)) = 0 → _) ∧ (¬ gI h6 40 (ix (nI i)) = 0 → _)
        rw [ix_n (by omega), show gI h6 40 i = 1 from by rw [e6]; exact gI_at _ _ _ _]
        refine ⟨fun c => absurd c (by decide), fun _ y ey u eu => ?_⟩
        have ey : y = nI (cn (fitB W G s w A B k) i) + 1 := ey
        have eu : u = nI i + 1 := eu
        rw [← nI_succ] at ey eu
        subst ey eu
        have := ih (i + 1) h6 (by omega) s1 s2
        unfold cn at this
        rw [if_pos hp] at this
        exact this
      · have e6 : h6 = sI g 40 (ix (nI i)) (jz 0) := e6
        rw [ix_n (by omega), show jz 0 = 0 from by decide] at e6
        obtain ⟨s1, s2⟩ := st 0 h6 (by rw [if_neg hp]) e6
        show (gI h6 40 (ix (nI i)) = 0 → _) ∧ (¬ gI h6 40 (ix (nI i)) = 0 → _)
        rw [ix_n (by omega), show gI h6 40 i = 0 from by rw [e6]; exact gI_at _ _ _ _]
        refine ⟨fun _ u eu => ?_, fun c => absurd rfl c⟩
        have eu : u = nI i + 1 := eu
        rw [← nI_succ] at eu
        subst eu
        have := ih (i + 1) h6 (by omega) s1 s2
        unfold cn at this
        rw [if_neg hp, Nat.add_zero] at this
        exact this
  exact key M 0 h (by omega) (eqE_refl h) (fun i hi => by omega)
/-- as the calls want it -/
theorem m_fillsX {h : hp} {v W G D : Nat} {A : Nat → Int32} {B : Nat → Int64} {k w s : Int32} {Q : Int32 → hp → Prop} (t : mAt h v) (a : mWld v h W G) (ok : okW W G) (d : mTold h D A B) (hD : D ≤ 20) (c : isC D k w s) (hq : ∀ h1, eqE mScr h h1 → mFit h1 (fitX W G A B k w s) ((G + 1) ^ W) → Q (nI (cn (fitX W G A B k w s) ((G + 1) ^ W))) h1) : w_X12_fillsFits h k w s Q := by
  obtain ⟨c1, c2, c3⟩ := c
  obtain ⟨ek, hk⟩ := n_of c1.1
  obtain ⟨ew, hw⟩ := n_of c2.1
  obtain ⟨es, hs⟩ := n_of c3.1
  rw [ek, ew, es]
  exact m_fillsFits t a ok d hD (by omega) (by omega) (by omega) hq
