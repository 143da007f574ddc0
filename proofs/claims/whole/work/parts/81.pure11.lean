/-! alike -/
def alF (P : Nat) (f g : Nat → Int64) : Nat → Nat → Nat
  | 0, acc => acc
  | n + 1, acc => alF P f g n (if ((f (P - (n + 1))).toInt % (P : Int)) = ((g (P - (n + 1))).toInt % (P : Int)) then acc + 1 else acc)
def alikeV (R P : Nat) (S : Nat → Nat) (N : Nat → Nat → Int32) (r q : Nat) : Int32 := nI (alF P (fun b => comesV R S N r (nI b).toInt64) (fun b => comesV R S N q (nI b).toInt64) P 0)
theorem rsV_eq {P : Nat} (okp : okP P) (y z : Int) : rsV P y = rsV P z ↔ y % (P : Int) = z % (P : Int) := by
  have h1 := rsV_in okp.1 okp.2 y
  have h2 := rsV_in okp.1 okp.2 z
  rw [t_eq, h1.1, h2.1]
theorem rsV_0 {P : Nat} (okp : okP P) (y z : Int) : rsV P (y - z) = 0 ↔ y % (P : Int) = z % (P : Int) := by
  have h1 := rsV_in okp.1 okp.2 (y - z)
  rw [t_eq, h1.1, show (0 : Int32).toInt = 0 from rfl]
  exact Int.emod_eq_emod_iff_emod_sub_eq_zero.symm
theorem c_alike {h : hp} {o R P : Nat} {S : Nat → Nat} {N : Nat → Nat → Int32} {x y : Int32} {Q : Int32 → Prop} (t : cAt h o) (a : cRows o h R S N) (ok : okRows R S N) (aP : cP o h P) (okp : okP P) (hq1 : isR R x ∧ isR R y ∧ ¬ x = y → Q (alikeV R P S N x.toInt.toNat y.toInt.toNat)) (hq0 : ¬ (isR R x ∧ isR R y ∧ ¬ x = y) → Q (-1)) : w_X11_alike h x y Q := by
  unfold w_X11_alike w_X11_alike_0
  refine c_areTwo t a ok (fun z => ⟨fun _ => ?_, fun c => absurd c (by decide)⟩) (fun z => ⟨fun c => absurd rfl c, fun _ => hq0 z⟩)
  have hq := hq1 z
  obtain ⟨r, hr, rfl, er⟩ := isR_n z.1
  obtain ⟨q, hq', rfl, eq⟩ := isR_n z.2.1
  rw [er, eq] at hq
  have p2 := okp.2
  unfold w_X11_alike_16
  intro X hX
  have key : ∀ n acc : Nat, n ≤ P → Q (nI (alF P (fun b => comesV R S N r (nI b).toInt64) (fun b => comesV R S N q (nI b).toInt64) n acc)) → X (nI acc, nI (P - n)) := by
    intro n
    induction n with
    | zero =>
      intro acc _ hq
      apply hX
      refine ⟨by rw [t.1]; exact t.2, fun _ => hq, fun c => absurd ?_ c⟩
      rw [t.1, aP]
      exact nI_le (Nat.le_refl _) (by omega)
    | succ n ih =>
      intro acc hn hq
      unfold alF at hq
      apply hX
      refine ⟨by rw [t.1]; exact t.2, fun c => absurd c ?_, fun _ => ⟨by rw [t.1]; exact t.2, by rw [t.1]; exact t.2, ?_⟩⟩
      · rw [t.1, aP]
        exact nI_ge (by omega) (by omega)
      · show w_X7_comesTo (gR h 0) h (nI r) (nI (P - (n + 1))).toInt64 _
        rw [t.1]
        have b1 := comesV_in (b := P - (n + 1)) ok hr (by omega)
        have b2 := comesV_in (b := P - (n + 1)) ok hq' (by omega)
        refine c_comesTo a ok hr ⟨t.2, c_comesTo a ok hq' ?_⟩
        have es := tL_sub (x := comesV R S N r (nI (P - (n + 1))).toInt64) (y := comesV R S N q (nI (P - (n + 1))).toInt64) (by omega) (by omega)
        refine c_restOf aP okp (by rw [es]; omega) ?_
        rw [es]
        refine ⟨fun c z ez => ?_, fun c z ez w ew => ?_⟩
        · rw [rsV_0 okp] at c
          rw [if_neg c] at hq
          have ez : z = nI (P - (n + 1)) + 1 := ez
          rw [← nI_succ, show P - (n + 1) + 1 = P - n from by omega] at ez
          subst ez
          exact ih acc (by omega) hq
        · rw [rsV_0 okp] at c
          rw [if_pos c] at hq
          have ez : z = nI acc + 1 := ez
          have ew : w = nI (P - (n + 1)) + 1 := ew
          rw [← nI_succ] at ez
          rw [← nI_succ, show P - (n + 1) + 1 = P - n from by omega] at ew
          subst ez ew
          exact ih (acc + 1) (by omega) hq
  have := key P 0 (Nat.le_refl _) hq
  rw [Nat.sub_self] at this
  exact this
theorem m_alike {h : hp} {s R P : Nat} {S : Nat → Nat} {N : Nat → Nat → Int32} {x y : Int32} {Q : Int32 → Prop} (t : mAt h s) (a : mRows s h R S N) (ok : okRows R S N) (aP : gI h 12 s = nI P) (okp : okP P) (hq1 : isR R x ∧ isR R y ∧ ¬ x = y → Q (alikeV R P S N x.toInt.toNat y.toInt.toNat)) (hq0 : ¬ (isR R x ∧ isR R y ∧ ¬ x = y) → Q (-1)) : w_X12_alike h x y Q := by
  unfold w_X12_alike w_X12_alike_0
  refine m_isRow t a ok (fun z => ⟨fun c => absurd c (by decide), fun _ => ?_⟩) (fun z => ⟨fun _ => hq0 (fun q => z q.1), fun c => absurd rfl c⟩)
  refine m_isRow t a ok (fun z2 => ⟨fun c => absurd c (by decide), fun _ => ⟨fun ne => ?_, fun e => hq0 (fun q => q.2.2 e)⟩⟩) (fun z => ⟨fun _ => hq0 (fun q => z q.2.1), fun c => absurd rfl c⟩)
  have hq := hq1 ⟨z, z2, ne⟩
  obtain ⟨r, hr, rfl, er⟩ := isR_n z
  obtain ⟨q, hq', rfl, eq⟩ := isR_n z2
  rw [er, eq] at hq
  have p2 := okp.2
  have hs := t.2
  unfold w_X12_alike_28
  intro X hX
  have key : ∀ n acc : Nat, n ≤ P → Q (nI (alF P (fun b => comesV R S N r (nI b).toInt64) (fun b => comesV R S N q (nI b).toInt64) n acc)) → X (nI acc, nI (P - n)) := by
    intro n
    induction n with
    | zero =>
      intro acc _ hq
      apply hX
      refine ⟨by rw [t.1]; exact in_n hs (by omega), fun _ => hq, fun c => absurd ?_ c⟩
      rw [t.1, ix_n (by omega), aP]
      exact nI_le (Nat.le_refl _) (by omega)
    | succ n ih =>
      intro acc hn hq
      unfold alF at hq
      apply hX
      refine ⟨by rw [t.1]; exact in_n hs (by omega), fun c => absurd c ?_, fun _ => ?_⟩
      · rw [t.1, ix_n (by omega), aP]
        exact nI_ge (by omega) (by omega)
      · show w_X12_restBy h (nI r) (nI (P - (n + 1))) _
        refine m_restBy t a ok aP okp hr (by omega) (m_restBy t a ok aP okp hq' (by omega) ?_)
        refine ⟨fun c z ez => ?_, fun c z ez w ew => ?_⟩
        · rw [rsV_eq okp] at c
          rw [if_neg c] at hq
          have ez : z = nI (P - (n + 1)) + 1 := ez
          rw [← nI_succ, show P - (n + 1) + 1 = P - n from by omega] at ez
          subst ez
          exact ih acc (by omega) hq
        · rw [rsV_eq okp] at c
          rw [if_pos c] at hq
          have ez : z = nI acc + 1 := ez
          have ew : w = nI (P - (n + 1)) + 1 := ew
          rw [← nI_succ] at ez
          rw [← nI_succ, show P - (n + 1) + 1 = P - n from by omega] at ew
          subst ez ew
          exact ih (acc + 1) (by omega) hq
  have := key P 0 (Nat.le_refl _) hq
  rw [Nat.sub_self] at this
  exact this
/-! back and feed -/
theorem x_back {d : Nat} {h : hp} {n : Nat} {f : Nat → Int32} (a : aTape d h n f) {k : Nat} (hk : k ≤ n) : aTape d (sI h 0 d (nI (n - k))) (n - k) f := by
  have := a.2.1
  refine ⟨gI_at _ _ _ _, by omega, fun j hj => ?_⟩
  rw [gI_o _ _ (by decide)]
  exact a.2.2 j (by omega)
def isK (n : Nat) (x : Int32) : Prop := 0 ≤ x.toInt ∧ x.toInt ≤ (n : Int)
theorem c_back {h : hp} {n : Nat} {f : Nat → Int32} {x : Int32} {Q : Int32 → hp → Prop} (a : aTape 1 h n f) (hq1 : isK n x → Q (nI (n - x.toInt.toNat)) (sI h 0 1 (nI (n - x.toInt.toNat)))) (hq0 : ¬ isK n x → Q (-1) h) : w_X11_back h x Q := by
  unfold w_X11_back w_X11_back_0
  have hn := a.2.1
  have en := n_toInt (n := n) (by omega)
  have z0 : (0 : Int32).toInt = 0 := rfl
  refine ⟨fun c => hq0 (fun q => by rw [t_lt, z0] at c; have := q.1; omega), fun c => ⟨fun c2 h3 e3 => ?_, fun c2 => hq0 (fun q => c2 ?_)⟩⟩
  · rw [a.1, t_le, en] at c2
    rw [t_lt, z0] at c
    have hq := hq1 ⟨by omega, c2⟩
    obtain ⟨ex, hx⟩ := n_of (x := x) (by omega)
    have e : gI h 0 1 - x = nI (n - x.toInt.toNat) := by
      rw [a.1]
      generalize x.toInt.toNat = j at ex hx hq
      subst ex
      rw [n_toInt hx] at c2
      exact nI_sub (by omega) (by omega)
    rw [e] at e3
    subst e3
    rw [show gI (sI h 0 1 (nI (n - x.toInt.toNat))) 0 1 = nI (n - x.toInt.toNat) from gI_at _ _ _ _]
    exact hq
  · rw [a.1, t_le, en]; exact q.2
theorem m_back {h : hp} {n : Nat} {f : Nat → Int32} {x : Int32} {Q : Int32 → hp → Prop} (a : aTape 2 h n f) (hq1 : isK n x → Q (nI (n - x.toInt.toNat)) (sI h 0 2 (nI (n - x.toInt.toNat)))) (hq0 : ¬ isK n x → Q (-1) h) : w_X12_back h x Q := by
  unfold w_X12_back w_X12_back_0
  have hn := a.2.1
  have en := n_toInt (n := n) (by omega)
  have z0 : (0 : Int32).toInt = 0 := rfl
  refine ⟨fun c => hq0 (fun q => by rw [t_lt, z0] at c; have := q.1; omega), fun c => ⟨fun c2 h3 e3 => ?_, fun c2 => hq0 (fun q => c2 ?_)⟩⟩
  · rw [a.1, t_le, en] at c2
    rw [t_lt, z0] at c
    have hq := hq1 ⟨by omega, c2⟩
    obtain ⟨ex, hx⟩ := n_of (x := x) (by omega)
    have e : gI h 0 2 - x = nI (n - x.toInt.toNat) := by
      rw [a.1]
      generalize x.toInt.toNat = j at ex hx hq
      subst ex
      rw [n_toInt hx] at c2
      exact nI_sub (by omega) (by omega)
    rw [e] at e3
    subst e3
    rw [show gI (sI h 0 2 (nI (n - x.toInt.toNat))) 0 2 = nI (n - x.toInt.toNat) from gI_at _ _ _ _]
    exact hq
  · rw [a.1, t_le, en]; exact q.2
def tape20 (d : Nat) (g : Int32 → Int32 → Int32) (h : hp) (n : Nat) (x0 x1 x2 x3 x4 : Int32) : hp := tape4 d (g x4) (tape4 d (g x3) (tape4 d (g x2) (tape4 d (g x1) (tape4 d (g x0) h n) (n + 4)) (n + 8)) (n + 12)) (n + 16)
def fApp20 (g : Int32 → Int32 → Int32) (f : Nat → Int32) (n : Nat) (x0 x1 x2 x3 x4 : Int32) : Nat → Int32 := fApp4 (g x4) (fApp4 (g x3) (fApp4 (g x2) (fApp4 (g x1) (fApp4 (g x0) f n) (n + 4)) (n + 8)) (n + 12)) (n + 16)
theorem aTape_20 {d : Nat} {h : hp} {n : Nat} {f : Nat → Int32} {g : Int32 → Int32 → Int32} {x0 x1 x2 x3 x4 : Int32} (a : aTape d h n f) (hn : n + 20 ≤ 2000) : aTape d (tape20 d g h n x0 x1 x2 x3 x4) (n + 20) (fApp20 g f n x0 x1 x2 x3 x4) :=
  aTape_4 (aTape_4 (aTape_4 (aTape_4 (aTape_4 a (by omega)) (by omega)) (by omega)) (by omega)) (by omega)
theorem fApp4_same (x : Int32) (f : Nat → Int32) (n : Nat) : fApp4 (gC x) f n = fApp4 (gM x) f n := by
  obtain ⟨e1, e2, e3, e4⟩ := byte_same x
  unfold fApp4
  rw [e1, e2, e3, e4]
theorem fApp20_same (f : Nat → Int32) (n : Nat) (x0 x1 x2 x3 x4 : Int32) : fApp20 gC f n x0 x1 x2 x3 x4 = fApp20 gM f n x0 x1 x2 x3 x4 := by
  unfold fApp20
  rw [fApp4_same, fApp4_same, fApp4_same, fApp4_same, fApp4_same]
theorem c_feed {h : hp} {n : Nat} {f : Nat → Int32} {x0 x1 x2 x3 x4 : Int32} {Q : Int32 → hp → Prop} (a : aTape 1 h n f) (hq1 : n ≤ 1980 → Q (nI (n + 20)) (tape20 1 gC h n x0 x1 x2 x3 x4)) (hq0 : ¬ n ≤ 1980 → Q (-1) h) : w_X11_feed h x0 x1 x2 x3 x4 Q := by
  unfold w_X11_feed w_X11_feed_0
  have hn := a.2.1
  rw [a.1]
  refine ⟨fun c => ?_, fun c => hq0 (fun q => c (nI_le (b := 1980) q (by omega)))⟩
  have hl : n ≤ 1980 := (nI_leI (a := n) (b := 1980) (by omega) (by omega)).mp c
  have a1 := aTape_4 (g := gC x0) a (by omega)
  have a2 := aTape_4 (g := gC x1) a1 (by omega)
  have a3 := aTape_4 (g := gC x2) a2 (by omega)
  have a4 := aTape_4 (g := gC x3) a3 (by omega)
  have a5 := aTape_4 (g := gC x4) a4 (by omega)
  refine putFour_ok a (by omega) (putFour_ok a1 (by omega) (putFour_ok a2 (by omega) (putFour_ok a3 (by omega) (putFour_ok a4 (by omega) ?_))))
  rw [a5.1]
  exact hq1 hl
theorem m_feed {h : hp} {n : Nat} {f : Nat → Int32} {x0 x1 x2 x3 x4 : Int32} {Q : Int32 → hp → Prop} (a : aTape 2 h n f) (hq1 : n ≤ 1980 → Q (nI (n + 20)) (tape20 2 gM h n x0 x1 x2 x3 x4)) (hq0 : ¬ n ≤ 1980 → Q (-1) h) : w_X12_feed h x0 x1 x2 x3 x4 Q := by
  unfold w_X12_feed w_X12_feed_0
  have hn := a.2.1
  rw [a.1, show nI n + 20 = nI (n + 20) from nI_add n 20]
  refine ⟨fun c => ?_, fun c => hq0 (fun q => c (nI_le (b := 2000) (by omega) (by omega)))⟩
  have hl : n + 20 ≤ 2000 := (nI_leI (a := n + 20) (b := 2000) (by omega) (by omega)).mp c
  have a1 := aTape_4 (g := gM x0) a (by omega)
  have a2 := aTape_4 (g := gM x1) a1 (by omega)
  have a3 := aTape_4 (g := gM x2) a2 (by omega)
  have a4 := aTape_4 (g := gM x3) a3 (by omega)
  have a5 := aTape_4 (g := gM x4) a4 (by omega)
  refine put_ok a (by omega) (put_ok a1 (by omega) (put_ok a2 (by omega) (put_ok a3 (by omega) (put_ok a4 (by omega) ?_))))
  rw [a5.1]
  exact hq1 (by omega)
