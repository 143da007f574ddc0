/-! pairs -/
theorem tL_d2 {x : Int64} (h : 0 ≤ x.toInt) : (x / 2).toInt = x.toInt / 2 := by
  have h2 := tL_hi x
  have e : (x / 2).toInt = (x.toInt.tdiv 2).bmod (2 ^ 64) := Int64.toInt_div x 2
  rw [e, Int.tdiv_eq_ediv_of_nonneg h, bm64 (by omega) (by omega)]
theorem sq_in {n m : Int} (h0 : 0 ≤ n) (h1 : n ≤ 3000000000) (h2 : 0 ≤ m) (h3 : m ≤ 3000000001) : 0 ≤ n * m ∧ n * m ≤ 9000000003000000000 :=
  ⟨Int.mul_nonneg h0 h2, Int.le_trans (Int.mul_le_mul h1 h3 h2 (by decide)) (by decide)⟩
theorem tri_ok {s : Int64} (h0 : 0 ≤ s.toInt) (h1 : s.toInt ≤ 3000000000) : (lrem s 2 = 0 → s / 2 * (s + 1) = s * (s + 1) / 2) ∧ (¬ lrem s 2 = 0 → (s + 1) / 2 * s = s * (s + 1) / 2) := by
  have e1 : (1 : Int64).toInt = 1 := rfl
  have e2 : (2 : Int64).toInt = 2 := rfl
  have z0 : (0 : Int64).toInt = 0 := rfl
  have es1 : (s + 1).toInt = s.toInt + 1 := by rw [tL_add (by rw [e1]; omega) (by rw [e1]; omega), e1]
  have eh : (s / 2).toInt = s.toInt / 2 := tL_d2 h0
  have eh2 : ((s + 1) / 2).toInt = (s.toInt + 1) / 2 := by rw [tL_d2 (by rw [es1]; omega), es1]
  have er : (lrem s 2).toInt = s.toInt - s.toInt / 2 * 2 := by
    unfold lrem
    have em : (s / 2 * 2).toInt = s.toInt / 2 * 2 := by rw [tL_mul (by rw [eh, e2]; omega) (by rw [eh, e2]; omega), eh, e2]
    rw [tL_sub (by rw [em]; omega) (by rw [em]; omega), em]
  have b := sq_in h0 h1 (m := s.toInt + 1) (by omega) (by omega)
  have ep : (s * (s + 1)).toInt = s.toInt * (s.toInt + 1) := by rw [tL_mul (by rw [es1]; omega) (by rw [es1]; omega), es1]
  have eq : (s * (s + 1) / 2).toInt = s.toInt * (s.toInt + 1) / 2 := by rw [tL_d2 (by rw [ep]; omega), ep]
  refine ⟨fun c => ?_, fun c => ?_⟩
  · rw [tL_eq, er, z0] at c
    have b2 := sq_in (n := s.toInt / 2) (m := s.toInt + 1) (by omega) (by omega) (by omega) (by omega)
    rw [tL_eq, eq, tL_mul (by rw [eh, es1]; omega) (by rw [eh, es1]; omega), eh, es1]
    obtain ⟨m, hm⟩ : ∃ m, m = s.toInt / 2 := ⟨_, rfl⟩
    have hs : s.toInt = 2 * m := by omega
    rw [← hm, hs, Int.mul_assoc, Int.mul_ediv_cancel_left _ (by decide)]
  · rw [tL_eq, er, z0] at c
    have b2 := sq_in (n := (s.toInt + 1) / 2) (m := s.toInt) (by omega) (by omega) (by omega) (by omega)
    rw [tL_eq, eq, tL_mul (by rw [eh2]; omega) (by rw [eh2]; omega), eh2]
    obtain ⟨m, hm⟩ : ∃ m, m = (s.toInt + 1) / 2 := ⟨_, rfl⟩
    have hs : s.toInt + 1 = 2 * m := by omega
    rw [← hm, hs, Int.mul_comm s.toInt, Int.mul_assoc, Int.mul_ediv_cancel_left _ (by decide)]
def prV (x y : Int64) : Int64 := (x + y) * ((x + y) + 1) / 2 + y
theorem c_paired {x y : Int64} {Q : Int64 → Prop} (hq : Q (prV x y)) : w_X11_paired x y Q := by
  unfold w_X11_paired w_X11_paired_0 w_X11_triangle w_X11_triangle_0
  exact hq
theorem m_paired {x y : Int64} {Q : Int64 → Prop} (h0 : 0 ≤ (x + y).toInt) (h1 : (x + y).toInt ≤ 3000000000) (hq : Q (prV x y)) : w_X12_paired x y Q := by
  unfold w_X12_paired w_X12_paired_0
  intro s es
  subst es
  obtain ⟨te, to⟩ := tri_ok h0 h1
  unfold prV at hq
  refine ⟨fun c => ?_, fun c => ?_⟩
  · rw [to c]; exact hq
  · rw [te c]; exact hq
def isN (x y : Int32) : Prop := (0 ≤ x.toInt ∧ x.toInt ≤ 999999999) ∧ (0 ≤ y.toInt ∧ y.toInt ≤ 999999999)
theorem c_pair {x y : Int32} {Q : Int64 → Prop} (hq1 : isN x y → Q (prV x.toInt64 y.toInt64)) (hq0 : ¬ isN x y → Q (-1)) : w_X11_pair x y Q := by
  unfold w_X11_pair w_X11_pair_0
  refine c_within (fun c => ⟨fun q => absurd q (by decide), fun _ => ?_⟩) (fun c => ⟨fun _ => hq0 (fun q => c ?_), fun q => absurd rfl q⟩)
  · rw [tL_int] at c
    refine c_within (fun c2 => ⟨fun _ => ?_, fun q => absurd q (by decide)⟩) (fun c2 => ⟨fun q => absurd rfl q, fun _ => hq0 (fun q => c2 ?_)⟩)
    · rw [tL_int] at c2
      exact c_paired (hq1 ⟨c, c2⟩)
    · rw [tL_int]; exact q.2
  · rw [tL_int]; exact q.1
theorem m_pair {x y : Int32} {Q : Int64 → Prop} (hq1 : isN x y → Q (prV x.toInt64 y.toInt64)) (hq0 : ¬ isN x y → Q (-1)) : w_X12_pair x y Q := by
  unfold w_X12_pair w_X12_pair_0
  refine m_in (fun c => ⟨fun q => absurd q (by decide), fun _ => ?_⟩) (fun c => ⟨fun _ => hq0 (fun q => c ?_), fun q => absurd rfl q⟩)
  · rw [tL_int] at c
    refine m_in (fun c2 => ⟨fun q => absurd q (by decide), fun _ => ?_⟩) (fun c2 => ⟨fun _ => hq0 (fun q => c2 ?_), fun q => absurd rfl q⟩)
    · rw [tL_int] at c2
      have z0 : (0 : Int64).toInt = 0 := rfl
      have z9 : (999999999 : Int64).toInt = 999999999 := rfl
      rw [z0, z9] at c c2
      have e : (x.toInt64 + y.toInt64).toInt = x.toInt + y.toInt := by rw [tL_add (by rw [tL_int, tL_int]; omega) (by rw [tL_int, tL_int]; omega), tL_int, tL_int]
      exact m_paired (by rw [e]; omega) (by rw [e]; omega) (hq1 ⟨c, c2⟩)
    · rw [tL_int]; exact q.2
  · rw [tL_int]; exact q.1
/-! number -/
/-- the row's numbers paired, with n places left of S -/
def nuF (g : Nat → Int32) (S : Nat) : Nat → Int64 → Int64
  | 0, v => v
  | n + 1, v => nuF g S n (prV v (g (S - (n + 1))).toInt64)
def numberV (S : Nat → Nat) (N : Nat → Nat → Int32) (r : Nat) : Int64 := nuF (N r) (S r) (S r - 1) (N r 0).toInt64
def nuB : Nat → Int
  | 0 => 197995149
  | 1 => 19800
  | _ => 99
theorem prV_in {v : Int64} {y : Int32} {B : Int} (hv : 0 ≤ v.toInt) (hv2 : v.toInt ≤ B) (hB : B ≤ 200000000) (hy : 0 ≤ y.toInt) (hy2 : y.toInt ≤ 99) : (v + y.toInt64).toInt = v.toInt + y.toInt ∧ 0 ≤ (prV v y.toInt64).toInt ∧ (prV v y.toInt64).toInt ≤ (B + 99) * (B + 100) / 2 + 99 := by
  have e1 : (1 : Int64).toInt = 1 := rfl
  have e : (v + y.toInt64).toInt = v.toInt + y.toInt := by rw [tL_add (by rw [tL_int]; omega) (by rw [tL_int]; omega), tL_int]
  refine ⟨e, ?_⟩
  obtain ⟨s, hs⟩ : ∃ s, s = v + y.toInt64 := ⟨_, rfl⟩
  unfold prV
  rw [← hs]
  rw [← hs] at e
  have es1 : (s + 1).toInt = s.toInt + 1 := by rw [tL_add (by rw [e1]; omega) (by rw [e1]; omega), e1]
  have b := sq_in (n := s.toInt) (m := s.toInt + 1) (by omega) (by omega) (by omega) (by omega)
  have ep : (s * (s + 1)).toInt = s.toInt * (s.toInt + 1) := by rw [tL_mul (by rw [es1]; omega) (by rw [es1]; omega), es1]
  have eq : (s * (s + 1) / 2).toInt = s.toInt * (s.toInt + 1) / 2 := by rw [tL_d2 (by rw [ep]; omega), ep]
  have hle : s.toInt * (s.toInt + 1) ≤ (B + 99) * (B + 100) := Int.mul_le_mul (by omega) (by omega) (by omega) (by omega)
  have hd : s.toInt * (s.toInt + 1) / 2 ≤ (B + 99) * (B + 100) / 2 := Int.ediv_le_ediv (by decide) hle
  have ef : (s * (s + 1) / 2 + y.toInt64).toInt = s.toInt * (s.toInt + 1) / 2 + y.toInt := by rw [tL_add (by rw [eq, tL_int]; omega) (by rw [eq, tL_int]; omega), eq, tL_int]
  rw [ef]
  exact ⟨by omega, by omega⟩
