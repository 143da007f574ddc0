/-! frames: a write elsewhere keeps a component -/
theorem cRows_f {o a k : Nat} {v : Int32} {h : hp} {R : Nat} {S : Nat → Nat} {N : Nat → Nat → Int32} (h1 : o ≠ a) (h2 : o + 1 ≠ a) (h3 : o + 3 ≠ a) (c : cRows o h R S N) : cRows o (sI h a k v) R S N := by
  refine ⟨by rw [gI_o _ _ h1]; exact c.1, fun r hr => ⟨by rw [gI_o _ _ h2]; exact (c.2 r hr).1, fun j hj => by rw [gI_o _ _ h3]; exact (c.2 r hr).2 j hj⟩⟩
theorem mRows_f {s a k : Nat} {v : Int32} {h : hp} {R : Nat} {S : Nat → Nat} {N : Nat → Nat → Int32} (h1 : 9 ≠ a) (h2 : 10 ≠ a) (h3 : 11 ≠ a) (c : mRows s h R S N) : mRows s (sI h a k v) R S N := by
  refine ⟨by rw [gI_o _ _ h1]; exact c.1, fun r hr => ⟨by rw [gI_o _ _ h2]; exact (c.2 r hr).1, fun j hj => by rw [gI_o _ _ h3]; exact (c.2 r hr).2 j hj⟩⟩
theorem cTold_f {o a k : Nat} {v : Int32} {h : hp} {D : Nat} {A : Nat → Int32} {B : Nat → Int64} (h1 : o ≠ a) (h2 : o + 1 ≠ a) (c : cTold o h D A B) : cTold o (sI h a k v) D A B :=
  ⟨by rw [gI_o _ _ h1]; exact c.1, fun j hj => ⟨by rw [gI_o _ _ h2]; exact (c.2 j hj).1, (c.2 j hj).2⟩⟩
theorem mTold_f0 {k : Nat} {v : Int32} {h : hp} {D : Nat} {A : Nat → Int32} {B : Nat → Int64} (h1 : 57 ≠ k) (c : mTold h D A B) : mTold (sI h 0 k v) D A B :=
  ⟨by rw [gI_k _ _ h1]; exact c.1, fun j hj => ⟨by rw [gI_o _ _ (by decide)]; exact (c.2 j hj).1, (c.2 j hj).2⟩⟩
theorem mTold_f {a k : Nat} {v : Int32} {h : hp} {D : Nat} {A : Nat → Int32} {B : Nat → Int64} (h1 : 0 ≠ a) (h2 : 38 ≠ a) (c : mTold h D A B) : mTold (sI h a k v) D A B :=
  ⟨by rw [gI_o _ _ h1]; exact c.1, fun j hj => ⟨by rw [gI_o _ _ h2]; exact (c.2 j hj).1, (c.2 j hj).2⟩⟩
theorem aTape_f0 {d k : Nat} {v : Int32} {h : hp} {n : Nat} {f : Nat → Int32} (h1 : d ≠ k) (c : aTape d h n f) : aTape d (sI h 0 k v) n f :=
  ⟨by rw [gI_k _ _ h1]; exact c.1, c.2.1, fun j hj => by rw [gI_o _ _ (by decide)]; exact c.2.2 j hj⟩
theorem aTape_f {d a k : Nat} {v : Int32} {h : hp} {n : Nat} {f : Nat → Int32} (h1 : 0 ≠ a) (h2 : 1 ≠ a) (c : aTape d h n f) : aTape d (sI h a k v) n f :=
  ⟨by rw [gI_o _ _ h1]; exact c.1, c.2.1, fun j hj => by rw [gI_o _ _ h2]; exact c.2.2 j hj⟩
theorem cAt_f {a k : Nat} {v : Int32} {h : hp} {o : Nat} (c : cAt h o) : cAt (sI h a k v) o := c
theorem mAt_f0 {k : Nat} {v : Int32} {h : hp} {s : Nat} (h1 : 18 ≠ k) (c : mAt h s) : mAt (sI h 0 k v) s := ⟨by rw [gI_k _ _ h1]; exact c.1, c.2⟩
theorem mAt_f {a k : Nat} {v : Int32} {h : hp} {s : Nat} (h1 : 0 ≠ a) (c : mAt h s) : mAt (sI h a k v) s := ⟨by rw [gI_o _ _ h1]; exact c.1, c.2⟩
/-! ask: who lies at each Lr-th, K asked so far -/
def askV (R : Nat) (S : Nat → Nat) (N : Nat → Nat → Int32) (r Lr : Nat) (K b : Int32) : Int64 := if 0 < Lr ∧ jrem (K + 1) (nI Lr) = 0 then comesV R S N r b.toInt64 + 1 else comesV R S N r b.toInt64
def okAsk (D : Nat) (b : Int32) : Prop := D < 20 ∧ -99 ≤ b.toInt ∧ b.toInt ≤ 99
theorem c_ask {h : hp} {o R D Lr : Nat} {S : Nat → Nat} {N : Nat → Nat → Int32} {A : Nat → Int32} {B : Nat → Int64} {K b : Int32} {Q : Int64 → hp → Prop} (t : cAt h o) (ho : 0 ≠ o) (a : cRows o h R S N) (ok : okRows R S N) (d : cTold 51 h D A B) (hD : D ≤ 20) (hK : gI h 0 8 = K) (hLr : gI h o 9 = nI Lr) (hL9 : Lr ≤ 9)
    (hq1 : ∀ r, r < R → gI h 0 7 = nI r → okAsk D b → Q (askV R S N r Lr K b) (cAdd 51 (sI h 0 8 (K + 1)) D b (askV R S N r Lr K b))) (hq0 : ¬ (isR R (gI h 0 7) ∧ okAsk D b) → Q (-2000000000000000000) h) : w_X11_ask h b Q := by
  unfold w_X11_ask w_X11_ask_0
  refine c_isRow t a ok (fun z => ⟨fun c => absurd c (by decide), fun _ => ?_⟩) (fun z => ⟨fun _ => hq0 (fun q => z q.1), fun c => absurd rfl c⟩)
  refine c_isFull d hD (fun e => ⟨fun _ => hq0 (fun q => by have := q.2.1; omega), fun c => absurd c (by decide)⟩) (fun hlt => ⟨fun c => absurd rfl c, fun _ => ?_⟩)
  refine c_within (fun c => ⟨fun _ h10 e10 => ?_, fun q => absurd q (by decide)⟩) (fun c => ⟨fun q => absurd rfl q, fun _ => hq0 (fun q => c (by rw [tL_int]; exact q.2.2))⟩)
  rw [tL_int] at c
  rw [hK] at e10
  obtain ⟨r, hr, er, er2⟩ := isR_n z
  have hq := hq1 r hr er ⟨hlt, c⟩
  have t10 : cAt h10 o := by rw [e10]; exact cAt_f t
  have a10 : cRows o h10 R S N := by rw [e10]; exact cRows_f (fun q => ho q.symm) (by omega) (by omega) a
  have d10 : cTold 51 h10 D A B := by rw [e10]; exact cTold_f (by decide) (by decide) d
  have g7 : gI h10 0 7 = nI r := by rw [e10, gI_k _ _ (by decide)]; exact er
  have g8 : gI h10 0 8 = K + 1 := by rw [e10]; exact gI_at _ _ _ _
  have g9 : gI h10 o 9 = nI Lr := by rw [e10, gI_o _ _ (fun q => ho q.symm)]; exact hLr
  rw [← e10] at hq
  have fin : ∀ w : Int64, w = askV R S N r Lr K b → w_X11_ask_92 Q b w h10 := fun w ew => by
    subst ew
    unfold w_X11_ask_92
    exact c_add d10 hlt hq
  rw [t10.1, g7]
  refine ⟨t10.2, c_comesTo a10 ok hr ⟨t10.2, ?_⟩⟩
  rw [g9, g8]
  refine ⟨fun c2 => fin _ ?_, fun c2 => ⟨t10.2, ?_, fun c3 => fin _ ?_, fun c3 x ex => fin _ ?_⟩⟩
  · have : ¬ 0 < Lr := fun q => absurd ((nI_leI (a := Lr) (b := 0) (by omega) (by omega)).mp c2) (by omega)
    unfold askV
    rw [if_neg (fun q => this q.1)]
  · intro q
    exact c2 (by rw [q]; exact Int32.le_refl 0)
  · unfold askV
    rw [if_neg (fun q => c3 q.2)]
  · have : 0 < Lr := by
      rcases Nat.eq_zero_or_pos Lr with q | q
      · exact absurd (by rw [q]; exact Int32.le_refl 0) c2
      · exact q
    unfold askV
    rw [if_pos ⟨this, c3⟩]
    exact ex
theorem m_ask {h : hp} {s R D Lr : Nat} {S : Nat → Nat} {N : Nat → Nat → Int32} {A : Nat → Int32} {B : Nat → Int64} {K b : Int32} {Q : Int64 → hp → Prop} (t : mAt h s) (a : mRows s h R S N) (ok : okRows R S N) (d : mTold h D A B) (hD : D ≤ 20) (hK : gI h 0 62 = K) (hLr : gI h 21 s = nI Lr) (hL9 : Lr ≤ 9)
    (hq1 : ∀ r, r < R → gI h 0 61 = nI r → okAsk D b → Q (askV R S N r Lr K b) (mAdd (sI h 0 62 (K + 1)) D b (askV R S N r Lr K b))) (hh : gI h 0 61 = -1 ∨ ∃ r, r < R ∧ gI h 0 61 = nI r) (hq0 : ¬ (isR R (gI h 0 61) ∧ okAsk D b) → Q (-2000000000000000000) h) : w_X12_ask h b Q := by
  unfold w_X12_ask w_X12_ask_0
  have hR := ok.1
  have hs := t.2
  have e20 : gI h 0 57 = 20 ↔ D = 20 := by rw [d.1]; exact nI_eq (a := D) (b := 20) (by omega) (by omega)
  rcases hh with hm1 | ⟨r, hr, er⟩
  · refine ⟨fun _ => hq0 (fun q => ?_), fun c => absurd (by rw [hm1]; decide) c⟩
    rw [hm1] at q
    exact absurd q.1.1 (by decide)
  · have z : isR R (gI h 0 61) := by rw [er]; exact ⟨by rw [n_toInt (by omega)]; omega, by rw [n_toInt (by omega)]; omega⟩
    refine ⟨fun c => absurd c (by rw [er]; exact nI_pos (by omega)), fun _ => ⟨fun c => hq0 (fun q => by have := e20.mp c; have := q.2.1; omega), fun c => ?_⟩⟩
    have hlt : D < 20 := by have : ¬ D = 20 := fun z => c (e20.mpr z); omega
    refine m_in (fun c => ⟨fun _ h6 e6 => ?_, fun q => absurd q (by decide)⟩) (fun c => ⟨fun q => absurd rfl q, fun _ => hq0 (fun q => c (by rw [tL_int]; exact q.2.2))⟩)
    rw [tL_int] at c
    rw [hK] at e6
    have hq := hq1 r hr er ⟨hlt, c⟩
    have t6 : mAt h6 s := by rw [e6]; exact mAt_f0 (by decide) t
    have a6 : mRows s h6 R S N := by rw [e6]; exact mRows_f (by decide) (by decide) (by decide) a
    have d6 : mTold h6 D A B := by rw [e6]; exact mTold_f0 (by decide) d
    have g7 : gI h6 0 61 = nI r := by rw [e6, gI_k _ _ (by decide)]; exact er
    have g8 : gI h6 0 62 = K + 1 := by rw [e6]; exact gI_at _ _ _ _
    have g9 : gI h6 21 s = nI Lr := by rw [e6, gI_o _ _ (by decide)]; exact hLr
    rw [← e6] at hq
    have hin : vp_in (gI h6 0 18) 2 := by rw [t6.1]; exact in_n hs (by omega)
    have fin : ∀ w : Int64, w = askV R S N r Lr K b → w_X12_ask_88 Q b w h6 := fun w ew => by
      subst ew
      unfold w_X12_ask_88
      refine ⟨by rw [d6.1]; exact in_n hlt (by omega), fun h2 e2 => ?_⟩
      rw [d6.1, ix_n (by omega)] at e2
      have g2 : gI h2 0 57 = nI D := by rw [e2, gI_o _ _ (by decide)]; exact d6.1
      refine ⟨by rw [g2]; exact in_n hlt (by omega), fun h3 e3 h4 e4 => ?_⟩
      rw [g2, ix_n (by omega)] at e3
      have g3 : gI h3 0 57 = nI D := by rw [e3, gI_sL]; exact g2
      rw [g3, ← nI_succ, e3, e2] at e4
      rw [e4]
      exact hq
    rw [g7]
    refine m_comesBy t6 a6 ok hr ⟨hin, ?_⟩
    rw [t6.1, ix_n (by omega), g9, g8]
    rw [t6.1] at hin
    refine ⟨fun c2 => fin _ ?_, fun c2 => ⟨hin, ?_, fun c3 => fin _ ?_, fun c3 x ex => fin _ ?_⟩⟩
    · have : ¬ 0 < Lr := fun q => absurd ((nI_leI (a := Lr) (b := 0) (by omega) (by omega)).mp c2) (by omega)
      unfold askV
      rw [if_neg (fun q => this q.1)]
    · intro q
      exact c2 (by rw [q]; exact Int32.le_refl 0)
    · unfold askV
      rw [if_neg (fun q => c3 q.2)]
    · have : 0 < Lr := by
        rcases Nat.eq_zero_or_pos Lr with q | q
        · exact absurd (by rw [q]; exact Int32.le_refl 0) c2
        · exact q
      unfold askV
      rw [if_pos ⟨this, c3⟩]
      exact ex
