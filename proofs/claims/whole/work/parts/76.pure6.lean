theorem bits_same (b : BitVec 32) (k : Nat) (hk : k + 8 ≤ 32) : (b >>> k).setWidth 8 = (b.sshiftRight k).setWidth 8 := by
  apply BitVec.eq_of_getLsbD_eq
  intro i hi
  rw [BitVec.getLsbD_setWidth, BitVec.getLsbD_setWidth, BitVec.getLsbD_ushiftRight, BitVec.getLsbD_sshiftRight]
  have h1 : ¬ 32 ≤ i := by omega
  have h2 : k + i < 32 := by omega
  simp [h1, h2]
theorem byte_same (x : Int32) : gC x 24 = gM x 24 ∧ gC x 16 = gM x 16 ∧ gC x 8 = gM x 8 ∧ gC x 0 = gM x 0 := by
  have key : ∀ (s : Int32) (k : Nat), k + 8 ≤ 32 → (jushr x s).toBitVec = x.toBitVec >>> k → (jshr x s).toBitVec = x.toBitVec.sshiftRight k → gC x s = gM x s := by
    intro s k hk h1 h2
    unfold gC gM
    have : (jushr x s).toInt8 = (jshr x s).toInt8 := by
      apply Int8.toBitVec_inj.mp
      show (jushr x s).toBitVec.signExtend 8 = (jshr x s).toBitVec.signExtend 8
      rw [h1, h2, BitVec.signExtend_eq_setWidth_of_le _ (by omega), BitVec.signExtend_eq_setWidth_of_le _ (by omega)]
      exact bits_same _ _ hk
    rw [this]
  refine ⟨key 24 24 (by omega) ?_ ?_, key 16 16 (by omega) ?_ ?_, key 8 8 (by omega) ?_ ?_, key 0 0 (by omega) ?_ ?_⟩ <;> rfl
/-! two, pair, number -/
theorem horF_1 {g : Nat → Int32} (hg : ∀ k, 0 ≤ (g k).toInt ∧ (g k).toInt ≤ 99) : ∀ (n : Nat) (acc : Int64), 0 ≤ acc.toInt → acc.toInt + 99 * n < 1000000000 → 0 ≤ (horF g 1 n acc).toInt ∧ (horF g 1 n acc).toInt ≤ acc.toInt + 99 * n
  | 0, acc, h, _ => ⟨h, by show acc.toInt ≤ _; omega⟩
  | n + 1, acc, h, hb => by
    have h1 := hg n
    have e : (acc * 1 + (g n).toInt64).toInt = acc.toInt + (g n).toInt := by
      rw [Int64.mul_one, tL_add (by rw [tL_int]; omega) (by rw [tL_int]; omega), tL_int]
    have := horF_1 hg n (acc * 1 + (g n).toInt64) (by rw [e]; omega) (by rw [e]; omega)
    rw [e] at this
    unfold horF
    omega
theorem numV_B {R : Nat} {S : Nat → Nat} {N : Nat → Nat → Int32} {r : Nat} (ok : okRows R S N) (hr : r < R) (hB : ¬ isB S N r) (k : Nat) : 0 ≤ (numV R S N r k).toInt ∧ (numV R S N r k).toInt ≤ 99 := by
  unfold numV
  by_cases h : r < R ∧ k < S r
  · rw [if_pos h]
    have h1 := (ok.2 r hr).2 k h.2
    have h2 : ¬ (N r k).toInt < 0 := fun q => hB ⟨k, h.2, q⟩
    omega
  · rw [if_neg h]
    decide
theorem first_in {R : Nat} {S : Nat → Nat} {N : Nat → Nat → Int32} {r : Nat} (ok : okRows R S N) (hr : r < R) (hB : ¬ isB S N r) : 0 ≤ (comesV R S N r 1).toInt ∧ (comesV R S N r 1).toInt ≤ 594 := by
  have := horF_1 (numV_B ok hr hB) 6 0 (by decide) (by decide)
  have h0 : (0 : Int64).toInt = 0 := rfl
  rw [h0] at this
  unfold comesV
  omega
def twoV (R : Nat) (S : Nat → Nat) (N : Nat → Nat → Int32) (r : Nat) (w : Int32) : Int64 :=
  if w = 0 then comesV R S N r 1 else if w = 1 then comesV R S N r 1 + 1 else if w = 2 then comesV R S N r (comesV R S N r 1 + 1) else 1 + (nI (figV (comesV R S N r 1 + 1))).toInt64
def isW (R : Nat) (x w : Int32) : Prop := isR R x ∧ 0 ≤ w.toInt ∧ w.toInt ≤ 3
theorem w03 {w : Int32} {P : Prop} (h : 0 ≤ w.toInt ∧ w.toInt ≤ 3) (h0 : w = 0 → P) (h1 : w = 1 → P) (h2 : w = 2 → P) (h3 : w = 3 → P) : P := by
  have e0 : (0 : Int32).toInt = 0 := rfl
  have e1 : (1 : Int32).toInt = 1 := rfl
  have e2 : (2 : Int32).toInt = 2 := rfl
  have e3 : (3 : Int32).toInt = 3 := rfl
  have : w.toInt = 0 ∨ w.toInt = 1 ∨ w.toInt = 2 ∨ w.toInt = 3 := by omega
  rcases this with q | q | q | q
  · exact h0 (t_eq.mpr (by omega))
  · exact h1 (t_eq.mpr (by omega))
  · exact h2 (t_eq.mpr (by omega))
  · exact h3 (t_eq.mpr (by omega))
theorem sw2 {sw w : Int32} (e : sw = w) {P0 P1 P2 P3 : Prop} (h0 : w = 0 → P0) (h1 : w = 1 → P1) (h2 : w = 2 → P2) (h3 : ¬ w = 0 → ¬ w = 1 → ¬ w = 2 → P3) : (sw = 0 → P0) ∧ (sw = 1 → P1) ∧ (sw = 2 → P2) ∧ (sw.toInt < 0 ∨ 2 < sw.toInt → P3) := by
  subst e
  have e0 : (0 : Int32).toInt = 0 := rfl
  have e1 : (1 : Int32).toInt = 1 := rfl
  have e2 : (2 : Int32).toInt = 2 := rfl
  refine ⟨h0, h1, h2, fun c => h3 ?_ ?_ ?_⟩
  · rw [t_eq, e0]; omega
  · rw [t_eq, e1]; omega
  · rw [t_eq, e2]; omega
theorem c_two {h : hp} {o R : Nat} {S : Nat → Nat} {N : Nat → Nat → Int32} {x w : Int32} {Q : Int64 → Prop} (t : cAt h o) (a : cRows o h R S N) (ok : okRows R S N) (hq0 : ¬ isW R x w → Q (-1)) (hq1 : isW R x w → isB S N x.toInt.toNat → Q (-2)) (hq2 : isW R x w → ¬ isB S N x.toInt.toNat → Q (twoV R S N x.toInt.toNat w)) : w_X11_two h x w Q := by
  unfold w_X11_two w_X11_two_0
  refine c_isRow t a ok (fun z => ⟨fun c => absurd c (by decide), fun _ => ?_⟩) (fun z => ⟨fun _ => hq0 (fun q => z q.1), fun c => absurd rfl c⟩)
  refine c_within (fun c => ⟨fun _ => ⟨by rw [t.1]; exact t.2, ?_⟩, fun q => absurd q (by decide)⟩) (fun c => ⟨fun q => absurd rfl q, fun _ => hq0 (fun q => c ?_)⟩)
  · rw [tL_int] at c
    have hw : isW R x w := ⟨z, c⟩
    obtain ⟨r, hr, rfl, er⟩ := isR_n z
    rw [er] at hq1 hq2
    rw [t.1]
    refine c_isBelow a ok hr (fun b => ⟨fun q => absurd q (by decide), fun _ => hq1 hw b⟩) (fun b => ⟨fun _ => ⟨t.2, ?_⟩, fun q => absurd rfl q⟩)
    have hq := hq2 hw b
    unfold twoV at hq
    refine c_comesTo a ok hr (fun sw esw => ?_)
    refine sw2 esw (fun e => ?_) (fun e => ?_) (fun e => ⟨t.2, ?_⟩) (fun n0 n1 n2 => ?_)
    · rw [if_pos e] at hq; exact hq
    · rw [if_neg (by rw [e]; decide), if_pos e] at hq; exact hq
    · rw [if_neg (by rw [e]; decide), if_neg (by rw [e]; decide), if_pos e] at hq
      exact c_comesTo a ok hr hq
    · rw [if_neg n0, if_neg n1, if_neg n2] at hq
      have hf := first_in ok hr b
      have e1 : (1 : Int64).toInt = 1 := rfl
      have ef : (comesV R S N r 1 + 1).toInt = (comesV R S N r 1).toInt + 1 := by rw [tL_add (by rw [e1]; omega) (by rw [e1]; omega), e1]
      refine c_figures (by rw [e1]; omega) (c_figures (by rw [ef]; omega) ?_)
      have eq : (nI (figV 1) + nI (figV (comesV R S N r 1 + 1))).toInt64 = 1 + (nI (figV (comesV R S N r 1 + 1))).toInt64 := by
        have hF : figV (comesV R S N r 1 + 1) ≤ 22 := by
          unfold figV
          have := nfF_le 20 ((comesV R S N r 1 + 1).toInt.natAbs / 10)
          split <;> omega
        have h1 : figV 1 = 1 := by decide
        rw [h1, tL_eq, tL_int]
        have g1 := n_toInt (n := 1) (by omega)
        have g2 := n_toInt (n := figV (comesV R S N r 1 + 1)) (by omega)
        rw [t_add (by rw [g1, g2]; omega) (by rw [g1, g2]; omega), tL_add (by rw [tL_int, e1, g2]; omega) (by rw [tL_int, e1, g2]; omega), tL_int, g1, g2, e1]
        rfl
      rw [eq]
      exact hq
  · rw [tL_int]; exact q.2
theorem m_two {h : hp} {s R : Nat} {S : Nat → Nat} {N : Nat → Nat → Int32} {x w : Int32} {Q : Int64 → Prop} (t : mAt h s) (a : mRows s h R S N) (ok : okRows R S N) (hq0 : ¬ isW R x w → Q (-1)) (hq1 : isW R x w → isB S N x.toInt.toNat → Q (-2)) (hq2 : isW R x w → ¬ isB S N x.toInt.toNat → Q (twoV R S N x.toInt.toNat w)) : w_X12_two h x w Q := by
  unfold w_X12_two w_X12_two_0
  refine m_isRow t a ok (fun z => ⟨fun c => absurd c (by decide), fun _ => ?_⟩) (fun z => ⟨fun _ => hq0 (fun q => z q.1), fun c => absurd rfl c⟩)
  refine m_in (fun c => ⟨fun _ => ?_, fun q => absurd q (by decide)⟩) (fun c => ⟨fun q => absurd rfl q, fun _ => hq0 (fun q => c ?_)⟩)
  · rw [tL_int] at c
    have hw : isW R x w := ⟨z, c⟩
    obtain ⟨r, hr, rfl, er⟩ := isR_n z
    rw [er] at hq1 hq2
    refine m_isBelow t a ok hr (fun b => ⟨fun q => absurd q (by decide), fun _ => hq1 hw b⟩) (fun b => ⟨fun _ => ?_, fun q => absurd rfl q⟩)
    have hq := hq2 hw b
    unfold twoV at hq
    refine m_comesBy t a ok hr (fun sw esw => ?_)
    refine sw2 esw (fun e => ?_) (fun e => ?_) (fun e => ?_) (fun n0 n1 n2 => ?_)
    · rw [if_pos e] at hq; exact hq
    · rw [if_neg (by rw [e]; decide), if_pos e] at hq; exact hq
    · rw [if_neg (by rw [e]; decide), if_neg (by rw [e]; decide), if_pos e] at hq
      exact m_comesBy t a ok hr hq
    · rw [if_neg n0, if_neg n1, if_neg n2] at hq
      exact m_figures hq
  · rw [tL_int]; exact q.2
