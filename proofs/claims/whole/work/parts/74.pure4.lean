/-! what was told: D answers, what was said A, the answers B; the class's lie at o, the model's at its own -/
def cTold (o : Nat) (h : hp) (D : Nat) (A : Nat → Int32) (B : Nat → Int64) : Prop := gI h o 0 = nI D ∧ ∀ k, k < D → gI h (o + 1) k = A k ∧ gL h (o + 2) k = B k
def mTold (h : hp) (D : Nat) (A : Nat → Int32) (B : Nat → Int64) : Prop := gI h 0 57 = nI D ∧ ∀ k, k < D → gI h 38 k = A k ∧ gL h 39 k = B k
def fAppL (f : Nat → Int64) (n : Nat) (v : Int64) : Nat → Int64 := fun k => if k = n then v else f k
def cAdd (o : Nat) (h : hp) (D : Nat) (x : Int32) (y : Int64) : hp := sI (sL (sI h (o + 1) D x) (o + 2) D y) o 0 (nI (D + 1))
def mAdd (h : hp) (D : Nat) (x : Int32) (y : Int64) : hp := sI (sL (sI h 38 D x) 39 D y) 0 57 (nI (D + 1))
theorem cTold_add {o : Nat} {h : hp} {D : Nat} {A : Nat → Int32} {B : Nat → Int64} {x : Int32} {y : Int64} (a : cTold o h D A B) : cTold o (cAdd o h D x y) (D + 1) (fApp A D x) (fAppL B D y) := by
  refine ⟨gI_at _ _ _ _, fun k hk => ?_⟩
  unfold cAdd fApp fAppL
  rw [gI_o _ _ (by omega), gI_sL, gI_sI, gL_sI, gL_sL, gL_sI]
  by_cases e : k = D
  · rw [if_pos ⟨rfl, e⟩, if_pos e, if_pos ⟨rfl, e⟩, if_pos e]
    exact ⟨rfl, rfl⟩
  · rw [if_neg (fun z => e z.2), if_neg e, if_neg (fun z => e z.2), if_neg e]
    exact a.2 k (by omega)
theorem mTold_add {h : hp} {D : Nat} {A : Nat → Int32} {B : Nat → Int64} {x : Int32} {y : Int64} (a : mTold h D A B) : mTold (mAdd h D x y) (D + 1) (fApp A D x) (fAppL B D y) := by
  refine ⟨gI_at _ _ _ _, fun k hk => ?_⟩
  unfold mAdd fApp fAppL
  rw [gI_o _ _ (by omega), gI_sL, gI_sI, gL_sI, gL_sL, gL_sI]
  by_cases e : k = D
  · rw [if_pos ⟨rfl, e⟩, if_pos e, if_pos ⟨rfl, e⟩, if_pos e]
    exact ⟨rfl, rfl⟩
  · rw [if_neg (fun z => e z.2), if_neg e, if_neg (fun z => e z.2), if_neg e]
    exact a.2 k (by omega)
theorem c_isFull {o : Nat} {h : hp} {D : Nat} {A : Nat → Int32} {B : Nat → Int64} {Q : Int32 → Prop} (a : cTold o h D A B) (hD : D ≤ 20) (hq1 : D = 20 → Q 1) (hq0 : D < 20 → Q 0) : w_X9_isFull o h Q := by
  unfold w_X9_isFull w_X9_isFull_0
  rw [a.1]
  refine ⟨fun c => hq0 ?_, fun c => hq1 ?_⟩
  · exact (nI_ltI (a := D) (b := 20) (by omega) (by omega)).mp c
  · have : ¬ D < 20 := fun z => c ((nI_ltI (a := D) (b := 20) (by omega) (by omega)).mpr z)
    omega
theorem c_add {o : Nat} {h : hp} {D : Nat} {A : Nat → Int32} {B : Nat → Int64} {x : Int32} {y : Int64} {Q : hp → Prop} (a : cTold o h D A B) (hD : D < 20) (hq : Q (cAdd o h D x y)) : w_X9_add o h x y Q := by
  unfold w_X9_add w_X9_add_0
  refine ⟨fun c => absurd c ?_, fun _ => ⟨?_, fun h2 e2 => ?_⟩⟩
  · rw [a.1]; exact nI_ge (b := 20) hD (by omega)
  · rw [a.1]; exact in_n hD (by omega)
  · rw [a.1, ix_n (by omega)] at e2
    have g2 : gI h2 o 0 = nI D := by rw [e2, gI_o _ _ (by omega)]; exact a.1
    refine ⟨by rw [g2]; exact in_n hD (by omega), fun h3 e3 h4 e4 => ?_⟩
    rw [g2, ix_n (by omega)] at e3
    have g3 : gI h3 o 0 = nI D := by rw [e3, gI_sL]; exact g2
    rw [g3, ← nI_succ, e3, e2] at e4
    rw [e4]
    exact hq
def okTell (D : Nat) (x : Int32) (y : Int64) : Prop := D < 20 ∧ (-99 ≤ x.toInt ∧ x.toInt ≤ 99) ∧ (-1000000000000000 ≤ y.toInt ∧ y.toInt ≤ 1000000000000000)
theorem c_tell {h : hp} {D : Nat} {A : Nat → Int32} {B : Nat → Int64} {x : Int32} {y : Int64} {Q : Int32 → hp → Prop} (a : cTold 51 h D A B) (hD : D ≤ 20) (hq1 : okTell D x y → Q (nI D) (cAdd 51 h D x y)) (hq0 : ¬ okTell D x y → Q (-1) h) : w_X11_tell h x y Q := by
  unfold w_X11_tell w_X11_tell_0
  refine c_isFull a hD (fun e => ⟨fun _ => hq0 (fun z => by have := z.1; omega), fun c => absurd c (by decide)⟩) (fun hlt => ⟨fun c => absurd rfl c, fun _ => ?_⟩)
  refine c_within (fun c => ⟨fun q => absurd q (by decide), fun _ => ?_⟩) (fun c => ⟨fun _ => hq0 (fun z => ?_), fun q => absurd rfl q⟩)
  · rw [tL_int] at c
    refine c_within (fun c2 => ⟨fun _ => ?_, fun q => absurd q (by decide)⟩) (fun c2 => ⟨fun q => absurd rfl q, fun _ => hq0 (fun z => c2 z.2.2)⟩)
    refine c_add a hlt ?_
    rw [show gI (cAdd 51 h D x y) 51 0 = nI (D + 1) from gI_at _ _ _ _, nI_pred]
    exact hq1 ⟨hlt, c, c2⟩
  · rw [tL_int] at c
    exact c z.2.1
theorem m_tell {h : hp} {D : Nat} {A : Nat → Int32} {B : Nat → Int64} {x : Int32} {y : Int64} {Q : Int32 → hp → Prop} (a : mTold h D A B) (hD : D ≤ 20) (hq1 : okTell D x y → Q (nI D) (mAdd h D x y)) (hq0 : ¬ okTell D x y → Q (-1) h) : w_X12_tell_ h x y Q := by
  unfold w_X12_tell_ w_X12_tell__0
  have e20 : gI h 0 57 = 20 ↔ D = 20 := by rw [a.1]; exact nI_eq (a := D) (b := 20) (by omega) (by omega)
  refine ⟨fun c => hq0 (fun z => by have := e20.mp c; have := z.1; omega), fun c => ?_⟩
  have hlt : D < 20 := by have : ¬ D = 20 := fun z => c (e20.mpr z); omega
  refine m_in (fun c => ⟨fun q => absurd q (by decide), fun _ => ?_⟩) (fun c => ⟨fun _ => hq0 (fun z => ?_), fun q => absurd rfl q⟩)
  · rw [tL_int] at c
    refine m_in (fun c2 => ⟨fun _ => ⟨?_, fun h2 e2 => ?_⟩, fun q => absurd q (by decide)⟩) (fun c2 => ⟨fun q => absurd rfl q, fun _ => hq0 (fun z => c2 z.2.2)⟩)
    · rw [a.1]; exact in_n hlt (by omega)
    · rw [a.1, ix_n (by omega)] at e2
      have g2 : gI h2 0 57 = nI D := by rw [e2, gI_o _ _ (by decide)]; exact a.1
      refine ⟨by rw [g2]; exact in_n hlt (by omega), fun h3 e3 h4 e4 => ?_⟩
      rw [g2, ix_n (by omega)] at e3
      have g3 : gI h3 0 57 = nI D := by rw [e3, gI_sL]; exact g2
      rw [g3, ← nI_succ, e3, e2] at e4
      rw [e4, show gI (sI (sL (sI h 38 D x) 39 D y) 0 57 (nI (D + 1))) 0 57 = nI (D + 1) from gI_at _ _ _ _, nI_pred]
      exact hq1 ⟨hlt, c, c2⟩
  · rw [tL_int] at c
    exact c z.2.1
theorem c_forget {h : hp} {D : Nat} {A : Nat → Int32} {B : Nat → Int64} {Q : Int32 → hp → Prop} (a : cTold 51 h D A B) (hq : Q (nI D) (sI h 51 0 0)) : w_X11_forget h Q := by
  unfold w_X11_forget w_X11_forget_0 w_X9_clear w_X9_clear_0
  intro x ex h1 e1
  rw [ex, e1, a.1]
  exact hq
theorem m_forget {h : hp} {D : Nat} {A : Nat → Int32} {B : Nat → Int64} {Q : Int32 → hp → Prop} (a : mTold h D A B) (hq : Q (nI D) (sI h 0 57 0)) : w_X12_forget h Q := by
  unfold w_X12_forget w_X12_forget_0
  intro x ex h1 e1
  rw [ex, e1, a.1]
  exact hq
theorem c_hide {h : hp} {o R : Nat} {S : Nat → Nat} {N : Nat → Nat → Int32} {x : Int32} {Q : Int32 → hp → Prop} (t : cAt h o) (a : cRows o h R S N) (ok : okRows R S N) (hq1 : isR R x → Q 1 (sI (sI (sI h 0 7 x) 0 8 0) 51 0 0)) (hq0 : ¬ isR R x → Q 0 h) : w_X11_hide h x Q := by
  unfold w_X11_hide w_X11_hide_0 w_X9_clear w_X9_clear_0
  refine c_isRow t a ok (fun z => ⟨fun _ h4 e4 h5 e5 h6 e6 => ?_, fun c => absurd c (by decide)⟩) (fun z => ⟨fun c => absurd rfl c, fun _ => hq0 z⟩)
  rw [e6, e5, e4]
  exact hq1 z
theorem m_hide {h : hp} {s R : Nat} {S : Nat → Nat} {N : Nat → Nat → Int32} {x : Int32} {Q : Int32 → hp → Prop} (t : mAt h s) (a : mRows s h R S N) (ok : okRows R S N) (hq1 : isR R x → Q 1 (sI (sI (sI h 0 61 x) 0 62 0) 0 57 0)) (hq0 : ¬ isR R x → Q 0 h) : w_X12_hide h x Q := by
  unfold w_X12_hide w_X12_hide_0
  refine m_isRow t a ok (fun z => ⟨fun _ h4 e4 h5 e5 h6 e6 => ?_, fun c => absurd c (by decide)⟩) (fun z => ⟨fun c => absurd rfl c, fun _ => hq0 z⟩)
  rw [e6, e5, e4]
  exact hq1 z
