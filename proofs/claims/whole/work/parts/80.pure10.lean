/-! rest and alike -/
def pw : Nat → Int
  | 0 => 0
  | k + 1 => 96 * pw k + 99
theorem pw_le : ∀ k, k ≤ 6 → 0 ≤ pw k ∧ pw k ≤ 815716012419 := by decide
theorem mul_in {a b M : Int} (h1 : -M ≤ a) (h2 : a ≤ M) (h3 : 0 ≤ b) (h4 : b ≤ 96) : -(96 * M) ≤ a * b ∧ a * b ≤ 96 * M := by
  have hM : 0 ≤ M := by omega
  have u1 := Int.mul_le_mul_of_nonneg_right h2 h3
  have u2 := Int.mul_le_mul_of_nonneg_left h4 hM
  have v1 := Int.mul_le_mul_of_nonneg_right h1 h3
  rw [Int.neg_mul] at v1
  rw [Int.mul_comm M 96] at u2
  omega
theorem hor_step {acc b : Int64} {g : Int32} {j : Nat} (hj : j < 6) (hb : 0 ≤ b.toInt) (hb2 : b.toInt ≤ 96) (ha : -pw j ≤ acc.toInt) (ha2 : acc.toInt ≤ pw j) (hg : -99 ≤ g.toInt ∧ g.toInt ≤ 99) : (acc * b + g.toInt64).toInt = acc.toInt * b.toInt + g.toInt ∧ -pw (j + 1) ≤ (acc * b + g.toInt64).toInt ∧ (acc * b + g.toInt64).toInt ≤ pw (j + 1) := by
  have hp := pw_le j (by omega)
  have hm := mul_in ha ha2 hb hb2
  have e1 : (acc * b).toInt = acc.toInt * b.toInt := tL_mul (by omega) (by omega)
  have e : (acc * b + g.toInt64).toInt = acc.toInt * b.toInt + g.toInt := by rw [tL_add (by rw [e1, tL_int]; omega) (by rw [e1, tL_int]; omega), e1, tL_int]
  rw [e]
  refine ⟨rfl, ?_, ?_⟩
  · show -(96 * pw j + 99) ≤ _; omega
  · show _ ≤ 96 * pw j + 99; omega
theorem horF_in {g : Nat → Int32} {b : Int64} (hb : 0 ≤ b.toInt) (hb2 : b.toInt ≤ 96) (hg : ∀ k, -99 ≤ (g k).toInt ∧ (g k).toInt ≤ 99) : ∀ (n j : Nat) (acc : Int64), n + j = 6 → -pw j ≤ acc.toInt → acc.toInt ≤ pw j → -815716012419 ≤ (horF g b n acc).toInt ∧ (horF g b n acc).toInt ≤ 815716012419
  | 0, j, acc, hn, h1, h2 => by
    have := pw_le j (by omega)
    show -815716012419 ≤ acc.toInt ∧ acc.toInt ≤ 815716012419
    omega
  | n + 1, j, acc, hn, h1, h2 => by
    have hs := hor_step (g := g n) (by omega) hb hb2 h1 h2 (hg n)
    exact horF_in hb hb2 hg n (j + 1) _ (by omega) hs.2.1 hs.2.2
theorem numV_in {R : Nat} {S : Nat → Nat} {N : Nat → Nat → Int32} {r : Nat} (ok : okRows R S N) (hr : r < R) (k : Nat) : -99 ≤ (numV R S N r k).toInt ∧ (numV R S N r k).toInt ≤ 99 := by
  unfold numV
  by_cases h : r < R ∧ k < S r
  · rw [if_pos h]
    exact (ok.2 r hr).2 k h.2
  · rw [if_neg h]
    decide
theorem comesV_in {R : Nat} {S : Nat → Nat} {N : Nat → Nat → Int32} {r b : Nat} (ok : okRows R S N) (hr : r < R) (hb : b ≤ 96) : -815716012419 ≤ (comesV R S N r (nI b).toInt64).toInt ∧ (comesV R S N r (nI b).toInt64).toInt ≤ 815716012419 := by
  have eb : (nI b).toInt64.toInt = b := by rw [tL_int, n_toInt (by omega)]
  exact horF_in (by rw [eb]; omega) (by rw [eb]; omega) (numV_in ok hr) 6 0 0 rfl (by decide) (by decide)
theorem emod_step (a b c P : Int) : (a % P * b + c) % P = (a * b + c) % P := by
  rw [Int.add_emod, Int.mul_emod, Int.emod_emod, ← Int.mul_emod, ← Int.add_emod]
theorem m_restBy {h : hp} {s R P b r : Nat} {S : Nat → Nat} {N : Nat → Nat → Int32} {Q : Int32 → Prop} (t : mAt h s) (a : mRows s h R S N) (ok : okRows R S N) (aP : gI h 12 s = nI P) (okp : okP P) (hr : r < R) (hb : b ≤ 96) (hq : Q (rsV P (comesV R S N r (nI b).toInt64).toInt)) : w_X12_restBy h (nI r) (nI b) Q := by
  rw [comesV_m ok hr] at hq
  have hS := (ok.2 r hr).1
  have ebi := n_toInt (n := b) (by omega)
  have eb : (nI b).toInt64.toInt = b := by rw [tL_int, ebi]
  unfold w_X12_restBy w_X12_restBy_0
  refine m_longAt t a ok hr (fun y ey => ?_)
  subst ey
  unfold w_X12_restBy_11
  intro X hX
  have key : ∀ (k j : Nat) (acc : Int64) (z : Int32), k + j = S r → -pw j ≤ acc.toInt → acc.toInt ≤ pw j → z = rsV P acc.toInt → Q (rsV P (horF (N r) (nI b).toInt64 k acc).toInt) → X (z, nI k - 1) := by
    intro k
    induction k with
    | zero =>
      intro j acc z _ _ _ ez hq
      subst ez
      apply hX
      exact ⟨fun _ => hq, fun c => absurd (show (nI 0 - 1) < 0 by decide) c⟩
    | succ k ih =>
      intro j acc z hk h1 h2 ez hq
      rw [nI_pred]
      apply hX
      have hg := (ok.2 r hr).2 k (by omega)
      have hs := hor_step (acc := acc) (b := (nI b).toInt64) (g := N r k) (j := j) (by omega) (by rw [eb]; omega) (by rw [eb]; omega) h1 h2 hg
      have hin := rsV_in okp.1 okp.2 acc.toInt
      have hm := mul_in (a := acc.toInt % P) (b := b) (M := 96) (by omega) (by have := okp.2; omega) (by omega) (by omega)
      have e1 : (z * nI b).toInt = acc.toInt % P * b := by rw [ez, t_mul (by rw [hin.1, ebi]; omega) (by rw [hin.1, ebi]; omega), hin.1, ebi]
      have e2 : (z * nI b + N r k).toInt = acc.toInt % P * b + (N r k).toInt := by rw [t_add (by rw [e1]; omega) (by rw [e1]; omega), e1]
      refine ⟨fun c => absurd c (nI_pos (by omega)), fun _ => m_at t a ok hr (by omega) (m_restOf t aP okp ?_)⟩
      intro x' e'
      have e' : x' = nI k + (-1) := e'
      rw [m1] at e'
      subst e'
      refine ih (j + 1) _ _ (by omega) hs.2.1 hs.2.2 ?_ hq
      show rsV P (z * nI b + N r k).toInt = _
      unfold rsV
      rw [e2, hs.1, eb, emod_step]
  exact key (S r) 0 0 0 rfl (by decide) (by decide) (by
    unfold rsV
    rw [show (0 : Int64).toInt = 0 from rfl, Int.zero_emod]
    rfl) hq
def cP (o : Nat) (h : hp) (P : Nat) : Prop := gI h (o + 9) 1 = nI P
theorem c_rest {h : hp} {o R P : Nat} {S : Nat → Nat} {N : Nat → Nat → Int32} {x b : Int32} {Q : Int32 → Prop} (t : cAt h o) (a : cRows o h R S N) (ok : okRows R S N) (aP : cP o h P) (okp : okP P) (hq1 : isR R x → 0 ≤ b.toInt ∧ b.toInt ≤ 96 → Q (rsV P (comesV R S N x.toInt.toNat b.toInt64).toInt)) (hq0 : ¬ (isR R x ∧ 0 ≤ b.toInt ∧ b.toInt ≤ 96) → Q (-1)) : w_X11_rest h x b Q := by
  unfold w_X11_rest w_X11_rest_0
  refine c_isRow t a ok (fun z => ⟨fun c => absurd c (by decide), fun _ => ?_⟩) (fun z => ⟨fun _ => hq0 (fun q => z q.1), fun c => absurd rfl c⟩)
  refine c_within (fun c => ⟨fun _ => ⟨by rw [t.1]; exact t.2, by rw [t.1]; exact t.2, ?_⟩, fun q => absurd q (by decide)⟩) (fun c => ⟨fun q => absurd rfl q, fun _ => hq0 (fun q => c (by rw [tL_int]; exact q.2))⟩)
  rw [tL_int] at c
  have c : 0 ≤ b.toInt ∧ b.toInt ≤ 96 := c
  have hq := hq1 z c
  obtain ⟨r, hr, rfl, er⟩ := isR_n z
  rw [er] at hq
  obtain ⟨eb, hb⟩ := n_of c.1
  rw [t.1]
  have hin := comesV_in (b := b.toInt.toNat) ok hr (by omega)
  rw [← eb] at hin
  exact c_comesTo a ok hr (c_restOf aP okp (by omega) hq)
theorem m_rest {h : hp} {s R P : Nat} {S : Nat → Nat} {N : Nat → Nat → Int32} {x b : Int32} {Q : Int32 → Prop} (t : mAt h s) (a : mRows s h R S N) (ok : okRows R S N) (aP : gI h 12 s = nI P) (okp : okP P) (hq1 : isR R x → 0 ≤ b.toInt ∧ b.toInt ≤ 96 → Q (rsV P (comesV R S N x.toInt.toNat b.toInt64).toInt)) (hq0 : ¬ (isR R x ∧ 0 ≤ b.toInt ∧ b.toInt ≤ 96) → Q (-1)) : w_X12_rest h x b Q := by
  unfold w_X12_rest w_X12_rest_0
  refine m_isRow t a ok (fun z => ⟨fun c => absurd c (by decide), fun _ => ?_⟩) (fun z => ⟨fun _ => hq0 (fun q => z q.1), fun c => absurd rfl c⟩)
  refine m_in (fun c => ⟨fun q => absurd q (by decide), fun _ => ?_⟩) (fun c => ⟨fun _ => hq0 (fun q => c (by rw [tL_int]; exact q.2)), fun q => absurd rfl q⟩)
  rw [tL_int] at c
  have c : 0 ≤ b.toInt ∧ b.toInt ≤ 96 := c
  have hq := hq1 z c
  obtain ⟨r, hr, rfl, er⟩ := isR_n z
  rw [er] at hq
  obtain ⟨eb, hb⟩ := n_of c.1
  have hb6 : b.toInt.toNat ≤ 96 := by omega
  generalize b.toInt.toNat = j at eb hb hb6
  subst eb
  exact m_restBy t a ok aP okp hr hb6 hq
