/-! the relation of the two heaps -/
def agI (X : Nat → Nat → Prop) (h h1 : hp) : Prop := ∀ a j, X a j → gI h1 a j = gI h a j ∧ gL h1 a j = gL h a j
theorem agI_r {X : Nat → Nat → Prop} (h : hp) : agI X h h := fun _ _ _ => ⟨rfl, rfl⟩
theorem agI_t {X : Nat → Nat → Prop} {h h1 h2 : hp} (a : agI X h h1) (b : agI X h1 h2) : agI X h h2 := fun c j x => ⟨by rw [(b c j x).1, (a c j x).1], by rw [(b c j x).2, (a c j x).2]⟩
theorem agI_sI {X : Nat → Nat → Prop} {h h1 : hp} {a k : Nat} {v : Int32} (e : agI X h h1) (n : ¬ X a k) : agI X h (sI h1 a k v) := fun c j x => ⟨by rw [gI_sI, if_neg (fun q => n (by rw [← q.1, ← q.2]; exact x))]; exact (e c j x).1, (e c j x).2⟩
theorem agI_sL {X : Nat → Nat → Prop} {h h1 : hp} {a k : Nat} {v : Int64} (e : agI X h h1) (n : ¬ X a k) : agI X h (sL h1 a k v) := fun c j x => ⟨(e c j x).1, by rw [gL_sL, if_neg (fun q => n (by rw [← q.1, ← q.2]; exact x))]; exact (e c j x).2⟩
theorem agI_e {X P : Nat → Nat → Prop} {h h1 : hp} (e : eqE P h h1) (n : ∀ a j, X a j → ¬ P a j) : agI X h h1 := fun a j x => e.1 a j (n a j x)
theorem agI_w {X X' : Nat → Nat → Prop} {h h1 : hp} (e : agI X h h1) (q : ∀ a j, X' a j → X a j) : agI X' h h1 := fun a j x => e a j (q a j x)
/-- a law of the reference, and where it lies -/
def mLawX (i : Nat) (h : hp) (L : Lw) (f base : Nat) : Prop := gI h 22 i = nI f ∧ gI h 23 i = nI (f + Lnb L + 1) ∧ f + Lnb L + 1 ≤ 260 ∧ base + Lst L (Lnb L + 1) ≤ 840 ∧ (∀ b, b < Lnb L → gI h 24 (f + b) = 1 ∧ gI h 25 (f + b) = nI (base + Lst L b) ∧ gI h 26 (f + b) = nI (base + Lmd L b) ∧ gI h 27 (f + b) = nI (base + Lte L b) ∧ gI h 28 (f + b) = nI (base + Lst L (b + 1))) ∧ (gI h 24 (f + Lnb L) = 0 ∧ gI h 27 (f + Lnb L) = nI (base + Lst L (Lnb L)) ∧ gI h 28 (f + Lnb L) = nI (base + Lst L (Lnb L + 1))) ∧ ∀ c, c < Lst L (Lnb L + 1) → gI h 29 (base + c) = nI (L.1 c).1 ∧ ((L.1 c).1 < 2 → gI h 30 (base + c) = (L.1 c).2)
theorem mLawX_m {i : Nat} {h : hp} {L : Lw} {f base : Nat} (a : mLawX i h L f base) : mLaw i h L := ⟨f, base, a⟩
def mAskR (s : Nat) (h : hp) (L : Lw) (f B : Nat) : Prop := (∃ f0 b0, 130 * s ≤ f0 ∧ f0 + Lnb L + 1 ≤ f ∧ 420 * s ≤ b0 ∧ b0 + Lst L (Lnb L + 1) ≤ B ∧ mLawX (2 * s) h L f0 b0) ∨ (gI h 22 (2 * s) = gI h 23 (2 * s) ∧ L = dfL)
theorem mAskR_m {s : Nat} {h : hp} {L : Lw} {f B : Nat} (a : mAskR s h L f B) : mAsk s h L := by
  rcases a with ⟨f0, b0, h1, h2, h3, h4, hl⟩ | a
  · refine Or.inl ⟨mLawX_m hl, fun q => ?_⟩
    have b := hl.2.2.1
    rw [hl.1, hl.2.1, nI_eq (by omega) (by omega)] at q
    omega
  · exact Or.inr a
theorem mAskR_w {s : Nat} {h : hp} {L : Lw} {f B f' B' : Nat} (hf : f ≤ f') (hB : B ≤ B') (a : mAskR s h L f B) : mAskR s h L f' B' := by
  rcases a with ⟨f0, b0, h1, h2, h3, h4, hl⟩ | a
  · exact Or.inl ⟨f0, b0, h1, by omega, h3, by omega, hl⟩
  · exact Or.inr a
theorem mLawX_f {i : Nat} {h h1 : hp} {L : Lw} {f0 b0 : Nat} (w : wfL L) (e2 : gI h1 22 i = gI h 22 i ∧ gI h1 23 i = gI h 23 i) (e : ∀ a j, ((24 ≤ a ∧ a ≤ 28) ∧ f0 ≤ j ∧ j < f0 + Lnb L + 1) ∨ ((a = 29 ∨ a = 30) ∧ b0 ≤ j ∧ j < b0 + Lst L (Lnb L + 1)) → gI h1 a j = gI h a j) (a : mLawX i h L f0 b0) : mLawX i h1 L f0 b0 := by
  obtain ⟨a1, a2, a3, a4, a5, ⟨a6, a7, a8⟩, a9⟩ := a
  refine ⟨by rw [e2.1]; exact a1, by rw [e2.2]; exact a2, a3, a4, fun b hb => ?_, ⟨?_, ?_, ?_⟩, fun c hc => ?_⟩
  · rw [e 24 _ (by omega), e 25 _ (by omega), e 26 _ (by omega), e 27 _ (by omega), e 28 _ (by omega)]; exact a5 b hb
  · rw [e 24 _ (by omega)]; exact a6
  · rw [e 27 _ (by omega)]; exact a7
  · rw [e 28 _ (by omega)]; exact a8
  · rw [e 29 _ (by omega), e 30 _ (by omega)]; exact a9 c hc
def kAsM (s f B : Nat) (a j : Nat) : Prop := ((a = 22 ∨ a = 23) ∧ j = 2 * s) ∨ ((24 ≤ a ∧ a ≤ 28) ∧ 130 * s ≤ j ∧ j < f) ∨ ((a = 29 ∨ a = 30) ∧ 420 * s ≤ j ∧ j < B)
theorem mAskR_f {s : Nat} {h h1 : hp} {L : Lw} {f B : Nat} (w : wfL L) (e : agI (kAsM s f B) h h1) (a : mAskR s h L f B) : mAskR s h1 L f B := by
  have q22 := (e 22 (2 * s) (by unfold kAsM; omega)).1
  have q23 := (e 23 (2 * s) (by unfold kAsM; omega)).1
  rcases a with ⟨f0, b0, h1', h2, h3, h4, hl⟩ | a
  · exact Or.inl ⟨f0, b0, h1', h2, h3, h4, mLawX_f w ⟨q22, q23⟩ (fun a j q => (e a j (by unfold kAsM; omega)).1) hl⟩
  · exact Or.inr ⟨by rw [q22, q23]; exact a.1, a.2⟩
/-- the cells of the class that no text lies in -/
def cOut (a j : Nat) : Prop := cScr a j ∨ a ≤ 14 ∨ (51 ≤ a ∧ a ≤ 63)
def mOut (a j : Nat) : Prop := ¬ (9 ≤ a ∧ a ≤ 30) ∧ ¬ (a = 0 ∧ j = 18)
abbrev cTx (a j : Nat) : Prop := ¬ cOut a j
abbrev mTx (a j : Nat) : Prop := ¬ mOut a j
theorem nOut {o k j : Nat} (ho : isO o) (hk : k ≤ 6 ∨ (9 ≤ k ∧ k ≤ 12) ∨ k = 15 ∨ k = 16) : cTx (o + k) j := by
  unfold cTx cOut cScr
  rcases ho with q | q
  · subst q; omega
  · subst q; omega
def Rtx (hc hm : hp) (o s R : Nat) : Prop := ∃ (S : Nat → Nat) (N : Nat → Nat → Int32) (P NS : Nat) (AT WH : Nat → Nat) (K : Nat) (C : Nat → Nat) (W G Lr : Nat) (L : Lw),
  (isO o ∧ cAt hc o ∧ gR hc 1 = 48 - o ∧ mAt hm s) ∧ (okRows R S N ∧ cRows o hc R S N ∧ mRows s hm R S N) ∧ (okSh P NS AT WH ∧ shO o hc P NS AT WH ∧ mSh s hm NS AT WH ∧ gI hm 12 s = nI P) ∧ (okBags K C ∧ cBags o hc K C ∧ mBags s hm K C) ∧ (okW W G ∧ cWld hc W G ∧ cNz hc W G ∧ gI hc o 7 = nI W ∧ gI hc o 8 = nI G ∧ mWld s hm W G) ∧ (Lr ≤ 9 ∧ gI hc o 9 = nI Lr ∧ gI hm 21 s = nI Lr) ∧ (wfL L ∧ cLaw (o + 4) hc L ∧ mAskR s hm L (130 * s + 130) (420 * s + 420))
theorem Rtx_f {hc hm hc1 hm1 : hp} {o s R : Nat} (ec : agI cTx hc hc1) (er : ∀ i, gR hc1 i = gR hc i) (em : agI mTx hm hm1) (r : Rtx hc hm o s R) : Rtx hc1 hm1 o s R := by
  obtain ⟨S, N, P, NS, AT, WH, K, C, W, G, Lr, L, ⟨ho, t1, t2, t3⟩, ⟨a1, a2, a3⟩, ⟨b1, b2, b3, b4⟩, ⟨c1, c2, c3⟩, ⟨d1, d2, d3, d4, d5, d6⟩, ⟨e1, e2, e3⟩, f1, f2, f3⟩ := r
  have rc : ∀ k j, (k ≤ 6 ∨ (9 ≤ k ∧ k ≤ 12) ∨ k = 15 ∨ k = 16) → gI hc1 (o + k) j = gI hc (o + k) j := fun k j hk => (ec _ _ (nOut ho hk)).1
  have rc0 : ∀ j, gI hc1 o j = gI hc o j := fun j => rc 0 j (by omega)
  have r64 : ∀ j, gI hc1 64 j = gI hc 64 j := fun j => (ec _ _ (by unfold cTx cOut cScr; omega)).1
  have r66 : ∀ j, gI hc1 66 j = gI hc 66 j := fun j => (ec _ _ (by unfold cTx cOut cScr; omega)).1
  have rm : ∀ a j, 9 ≤ a ∧ a ≤ 30 → gI hm1 a j = gI hm a j := fun a j ha => (em _ _ (fun q => q.1 ha)).1
  have r18 : gI hm1 0 18 = gI hm 0 18 := (em _ _ (fun q => q.2 ⟨rfl, rfl⟩)).1
  have q1 : ∀ j, gI hc1 (o + 1) j = gI hc (o + 1) j := fun j => rc 1 j (by omega)
  have q3 : ∀ j, gI hc1 (o + 3) j = gI hc (o + 3) j := fun j => rc 3 j (by omega)
  have q4 : ∀ j, gI hc1 (o + 4) j = gI hc (o + 4) j := fun j => rc 4 j (by omega)
  have q5 : ∀ j, gI hc1 (o + 4 + 1) j = gI hc (o + 4 + 1) j := fun j => rc 5 j (by omega)
  have q6 : ∀ j, gI hc1 (o + 4 + 2) j = gI hc (o + 4 + 2) j := fun j => rc 6 j (by omega)
  have q9 : ∀ j, gI hc1 (o + 9) j = gI hc (o + 9) j := fun j => rc 9 j (by omega)
  have q10 : ∀ j, gI hc1 (o + 9 + 1) j = gI hc (o + 9 + 1) j := fun j => rc 10 j (by omega)
  have q12 : ∀ j, gI hc1 (o + 9 + 3) j = gI hc (o + 9 + 3) j := fun j => rc 12 j (by omega)
  have q15 : ∀ j, gI hc1 (o + 15) j = gI hc (o + 15) j := fun j => rc 15 j (by omega)
  have q16 : ∀ j, gI hc1 (o + 16) j = gI hc (o + 16) j := fun j => rc 16 j (by omega)
  refine ⟨S, N, P, NS, AT, WH, K, C, W, G, Lr, L, ⟨ho, ⟨by rw [er]; exact t1.1, t1.2⟩, by rw [er]; exact t2, ⟨by rw [r18]; exact t3.1, t3.2⟩⟩, ⟨a1, ?_, ?_⟩, ⟨b1, ⟨?_, ?_⟩, ?_, ?_⟩, ⟨c1, ?_, ?_⟩, ⟨d1, ?_, ?_, ?_, ?_, ?_⟩, ⟨e1, ?_, ?_⟩, f1, ?_, ?_⟩
  · unfold cRows; simp only [rc0, q1, q3]; exact a2
  · unfold mRows; simp only [rm 9 _ (by decide), rm 10 _ (by decide), rm 11 _ (by decide)]; exact a3
  · unfold cSh; simp only [q9, q10, q12]; exact b2.1
  · unfold cP; rw [q9]; exact b2.2
  · unfold mSh; simp only [rm 13 _ (by decide), rm 14 _ (by decide), rm 15 _ (by decide)]; exact b3
  · rw [rm 12 _ (by decide)]; exact b4
  · unfold cBags; simp only [q15, q16]; exact c2
  · unfold mBags; simp only [rm 17 _ (by decide), rm 18 _ (by decide)]; exact c3
  · unfold cWld; simp only [r64]; exact d2
  · unfold cNz; simp only [r66]; exact d3
  · rw [rc0]; exact d4
  · rw [rc0]; exact d5
  · unfold mWld; simp only [rm 19 _ (by decide), rm 20 _ (by decide)]; exact d6
  · rw [rc0]; exact e2
  · rw [rm 21 _ (by decide)]; exact e3
  · unfold cLaw isStep; simp only [q4, q5, q6]; exact f2
  · exact mAskR_f f1 (fun a j x => em a j (fun q => q.1 (by unfold kAsM at x; omega))) f3
/-! tape, what was told, slots, place, who is hidden -/
theorem jb_in (y : Int32) : -128 ≤ (jb y).toInt ∧ (jb y).toInt ≤ 127 := by
  have e : jb y = y.toInt8.toInt32 := rfl
  rw [e, Int8.toInt_toInt32]
  have h1 := y.toInt8.le_toInt
  have h2 := y.toInt8.toInt_lt
  omega
def isBy (f : Nat → Int32) (n : Nat) : Prop := ∀ k, k < n → -128 ≤ (f k).toInt ∧ (f k).toInt ≤ 127
theorem isBy_1 {f : Nat → Int32} {n : Nat} {y : Int32} (b : isBy f n) : isBy (fApp f n (jb y)) (n + 1) := fun k hk => by
  unfold fApp
  by_cases e : k = n
  · rw [if_pos e]; exact jb_in y
  · rw [if_neg e]; exact b k (by omega)
theorem isBy_4 {f : Nat → Int32} {n : Nat} {x : Int32} (b : isBy f n) : isBy (fApp4 (gM x) f n) (n + 4) := isBy_1 (isBy_1 (isBy_1 (isBy_1 b)))
theorem isBy_20 {f : Nat → Int32} {n : Nat} {x0 x1 x2 x3 x4 : Int32} (b : isBy f n) : isBy (fApp20 gM f n x0 x1 x2 x3 x4) (n + 20) := isBy_4 (isBy_4 (isBy_4 (isBy_4 (isBy_4 b))))
def rTp (hc hm : hp) : Prop := ∃ n f, aTape 1 hc n f ∧ aTape 2 hm n f ∧ isBy f n
def rTo (hc hm : hp) : Prop := ∃ D A B, D ≤ 20 ∧ cTold 51 hc D A B ∧ mTold hm D A B
def rSl (hc hm : hp) : Prop := ∃ F : Nat → Nat, ∀ i, i < 3 → F i ≤ 1 ∧ gI hc (54 + 3 * i) 3 = nI (F i) ∧ gI hm 45 i = nI (F i) ∧ (F i = 1 → ∃ D A B, D ≤ 20 ∧ cTold (54 + 3 * i) hc D A B ∧ mSlot i hm D A B)
def rPl (hc hm : hp) : Prop := gI hc 0 2 = gI hm 0 17
def rHi (hc hm : hp) (R : Nat) : Prop := gI hc 0 8 = gI hm 0 62 ∧ ((gI hc 0 7 = -2 ∧ gI hm 0 61 = -1) ∨ ∃ r, r < R ∧ gI hc 0 7 = nI r ∧ gI hm 0 61 = nI r)
def kTpC (a j : Nat) : Prop := (a = 0 ∧ j = 1) ∨ a = 1
def kTpM (a j : Nat) : Prop := (a = 0 ∧ j = 2) ∨ a = 1
def kToC (a _j : Nat) : Prop := a = 51 ∨ a = 52 ∨ a = 53
def kToM (a j : Nat) : Prop := (a = 0 ∧ j = 57) ∨ a = 38 ∨ a = 39
def kSlC (a _j : Nat) : Prop := 54 ≤ a ∧ a ≤ 62
def kSlM (a _j : Nat) : Prop := 45 ≤ a ∧ a ≤ 48
def kPlC (a j : Nat) : Prop := a = 0 ∧ j = 2
def kPlM (a j : Nat) : Prop := a = 0 ∧ j = 17
def kHiC (a j : Nat) : Prop := a = 0 ∧ (j = 7 ∨ j = 8)
def kHiM (a j : Nat) : Prop := a = 0 ∧ (j = 61 ∨ j = 62)
theorem rTp_f {hc hm hc1 hm1 : hp} (ec : agI kTpC hc hc1) (em : agI kTpM hm hm1) (r : rTp hc hm) : rTp hc1 hm1 := by
  obtain ⟨n, f, ⟨a1, a2, a3⟩, ⟨b1, b2, b3⟩, by0⟩ := r
  exact ⟨n, f, ⟨by rw [(ec 0 1 (Or.inl ⟨rfl, rfl⟩)).1]; exact a1, a2, fun k hk => by rw [(ec 1 k (Or.inr rfl)).1]; exact a3 k hk⟩, ⟨by rw [(em 0 2 (Or.inl ⟨rfl, rfl⟩)).1]; exact b1, b2, fun k hk => by rw [(em 1 k (Or.inr rfl)).1]; exact b3 k hk⟩, by0⟩
theorem rTo_f {hc hm hc1 hm1 : hp} (ec : agI kToC hc hc1) (em : agI kToM hm hm1) (r : rTo hc hm) : rTo hc1 hm1 := by
  obtain ⟨D, A, B, hD, ⟨a1, a2⟩, b1, b2⟩ := r
  exact ⟨D, A, B, hD, ⟨by rw [(ec 51 0 (Or.inl rfl)).1]; exact a1, fun k hk => ⟨by rw [(ec 52 k (Or.inr (Or.inl rfl))).1]; exact (a2 k hk).1, by rw [(ec 53 k (Or.inr (Or.inr rfl))).2]; exact (a2 k hk).2⟩⟩, by rw [(em 0 57 (Or.inl ⟨rfl, rfl⟩)).1]; exact b1, fun k hk => ⟨by rw [(em 38 k (Or.inr (Or.inl rfl))).1]; exact (b2 k hk).1, by rw [(em 39 k (Or.inr (Or.inr rfl))).2]; exact (b2 k hk).2⟩⟩
theorem cTold_ag {i : Nat} {h h1 : hp} {D : Nat} {A : Nat → Int32} {B : Nat → Int64} (hi : i < 3) (e : agI kSlC h h1) (a : cTold (54 + 3 * i) h D A B) : cTold (54 + 3 * i) h1 D A B := ⟨by rw [(e _ _ (by unfold kSlC; omega)).1]; exact a.1, fun k hk => ⟨by rw [(e _ _ (by unfold kSlC; omega)).1]; exact (a.2 k hk).1, by rw [(e _ _ (by unfold kSlC; omega)).2]; exact (a.2 k hk).2⟩⟩
theorem mSlot_ag {i : Nat} {h h1 : hp} {D : Nat} {A : Nat → Int32} {B : Nat → Int64} (e : agI kSlM h h1) (a : mSlot i h D A B) : mSlot i h1 D A B := ⟨by rw [(e _ _ (by unfold kSlM; omega)).1]; exact a.1, fun k hk => ⟨by rw [(e _ _ (by unfold kSlM; omega)).1]; exact (a.2 k hk).1, by rw [(e _ _ (by unfold kSlM; omega)).2]; exact (a.2 k hk).2⟩⟩
theorem rSl_f {hc hm hc1 hm1 : hp} (ec : agI kSlC hc hc1) (em : agI kSlM hm hm1) (r : rSl hc hm) : rSl hc1 hm1 := by
  obtain ⟨F, hF⟩ := r
  refine ⟨F, fun i hi => ?_⟩
  obtain ⟨f1, f2, f3, f4⟩ := hF i hi
  refine ⟨f1, by rw [(ec _ _ (by unfold kSlC; omega)).1]; exact f2, by rw [(em _ _ (by unfold kSlM; omega)).1]; exact f3, fun q => ?_⟩
  obtain ⟨D, A, B, d1, d2, d3⟩ := f4 q
  exact ⟨D, A, B, d1, cTold_ag hi ec d2, mSlot_ag em d3⟩
theorem rPl_f {hc hm hc1 hm1 : hp} (ec : agI kPlC hc hc1) (em : agI kPlM hm hm1) (r : rPl hc hm) : rPl hc1 hm1 := by
  unfold rPl
  rw [(ec 0 2 ⟨rfl, rfl⟩).1, (em 0 17 ⟨rfl, rfl⟩).1]
  exact r
theorem rHi_f {hc hm hc1 hm1 : hp} {R : Nat} (ec : agI kHiC hc hc1) (em : agI kHiM hm hm1) (r : rHi hc hm R) : rHi hc1 hm1 R := by
  unfold rHi
  rw [(ec 0 7 ⟨rfl, Or.inl rfl⟩).1, (ec 0 8 ⟨rfl, Or.inr rfl⟩).1, (em 0 61 ⟨rfl, Or.inl rfl⟩).1, (em 0 62 ⟨rfl, Or.inr rfl⟩).1]
  exact r
/-- the words of the two readers -/
def wrd (i : Nat) : Int64 := ([13550, 243290, 1253, 8864267, 10256063, 1492, 1373818, 242802, 249, 399641, 107681, 8740067, 692581, 257011, 409469, 404923, 374953] : List Int64).getD i 0
def rWd (hc hm : hp) : Prop := ∀ i, i < 17 → gL hc 7 i = wrd i ∧ gL hm 7 i = wrd i
def RelW (hc hm : hp) : Prop := ∃ o s R, Rtx hc hm o s R ∧ rTp hc hm ∧ rTo hc hm ∧ rSl hc hm ∧ rPl hc hm ∧ rHi hc hm R ∧ rWd hc hm
theorem rWd_f {hc hm hc1 hm1 : hp} (ec : ∀ i, gL hc1 7 i = gL hc 7 i) (em : ∀ i, gL hm1 7 i = gL hm 7 i) (r : rWd hc hm) : rWd hc1 hm1 := fun i hi => by
  rw [ec, em]
  exact r i hi
theorem Rel_scr {hc hm hc1 hm1 : hp} (ec : eqE cScr hc hc1) (em : eqE mScr hm hm1) (r : RelW hc hm) : RelW hc1 hm1 := by
  obtain ⟨o, s, R, T, tp, to, sl, pl, hi, wd⟩ := r
  refine ⟨o, s, R, Rtx_f (agI_e ec ?_) ec.2 (agI_e em ?_) T, rTp_f (agI_e ec ?_) (agI_e em ?_) tp, rTo_f (agI_e ec ?_) (agI_e em ?_) to, rSl_f (agI_e ec ?_) (agI_e em ?_) sl, rPl_f (agI_e ec ?_) (agI_e em ?_) pl, rHi_f (agI_e ec ?_) (agI_e em ?_) hi, rWd_f (fun i => eqE_L ec ?_) (fun i => eqE_L em ?_) wd⟩
  · exact fun a j x q => x (Or.inl q)
  · intro a j x q
    refine x ?_
    unfold mScr at q
    unfold mOut
    omega
  · intro a j x q; unfold kTpC at x; unfold cScr at q; omega
  · intro a j x q; unfold kTpM at x; unfold mScr at q; omega
  · intro a j x q; unfold kToC at x; unfold cScr at q; omega
  · intro a j x q; unfold kToM at x; unfold mScr at q; omega
  · intro a j x q; unfold kSlC at x; unfold cScr at q; omega
  · intro a j x q; unfold kSlM at x; unfold mScr at q; omega
  · intro a j x q; unfold kPlC at x; unfold cScr at q; omega
  · intro a j x q; unfold kPlM at x; unfold mScr at q; omega
  · intro a j x q; unfold kHiC at x; unfold cScr at q; omega
  · intro a j x q; unfold kHiM at x; unfold mScr at q; omega
  · unfold cScr; omega
  · unfold mScr; omega
theorem q_row : pp_row RelW := fun hc hm x0 x1 hR Q hq => by
  have hR0 := hR
  obtain ⟨o, s, R, ⟨S, N, P, NS, AT, WH, K, C, W, G, Lr, L, ⟨ho, t1, t2, t3⟩, ⟨a1, a2, a3⟩, ⟨b1, b2, b3, b4⟩, ⟨c1, c2, c3⟩, ⟨d1, d2, d3, d4, d5, d6⟩, ⟨e1, e2, e3⟩, f1, f2, f3⟩, tp, ⟨D, A, B, hD, to1, to2⟩, sl, pl, hi, wd⟩ := hR0
  exact c_row t1 a2 a1 (hq _ (fun Q2 hq2 => m_row t3 a3 a1 (hq2 hR)))
theorem q_comes : pp_comes RelW := fun hc hm x0 x1 hR Q hq => by
  have hR0 := hR
  obtain ⟨o, s, R, ⟨S, N, P, NS, AT, WH, K, C, W, G, Lr, L, ⟨ho, t1, t2, t3⟩, ⟨a1, a2, a3⟩, ⟨b1, b2, b3, b4⟩, ⟨c1, c2, c3⟩, ⟨d1, d2, d3, d4, d5, d6⟩, ⟨e1, e2, e3⟩, f1, f2, f3⟩, tp, ⟨D, A, B, hD, to1, to2⟩, sl, pl, hi, wd⟩ := hR0
  exact c_comes t1 a2 a1 (hq _ (fun Q2 hq2 => m_comes t3 a3 a1 (hq2 hR)))
theorem q_degree : pp_degree RelW := fun hc hm x0 hR Q hq => by
  have hR0 := hR
  obtain ⟨o, s, R, ⟨S, N, P, NS, AT, WH, K, C, W, G, Lr, L, ⟨ho, t1, t2, t3⟩, ⟨a1, a2, a3⟩, ⟨b1, b2, b3, b4⟩, ⟨c1, c2, c3⟩, ⟨d1, d2, d3, d4, d5, d6⟩, ⟨e1, e2, e3⟩, f1, f2, f3⟩, tp, ⟨D, A, B, hD, to1, to2⟩, sl, pl, hi, wd⟩ := hR0
  exact c_degree t1 a2 a1 (hq _ (fun Q2 hq2 => m_degree t3 a3 a1 (hq2 hR)))
theorem q_plus : pp_plus RelW := fun hc hm x0 x1 x2 hR Q hq => by
  have hR0 := hR
  obtain ⟨o, s, R, ⟨S, N, P, NS, AT, WH, K, C, W, G, Lr, L, ⟨ho, t1, t2, t3⟩, ⟨a1, a2, a3⟩, ⟨b1, b2, b3, b4⟩, ⟨c1, c2, c3⟩, ⟨d1, d2, d3, d4, d5, d6⟩, ⟨e1, e2, e3⟩, f1, f2, f3⟩, tp, ⟨D, A, B, hD, to1, to2⟩, sl, pl, hi, wd⟩ := hR0
  exact c_plus t1 a2 a1 (hq _ (fun Q2 hq2 => m_plus t3 a3 a1 (hq2 hR)))
theorem q_times : pp_times RelW := fun hc hm x0 x1 x2 hR Q hq => by
  have hR0 := hR
  obtain ⟨o, s, R, ⟨S, N, P, NS, AT, WH, K, C, W, G, Lr, L, ⟨ho, t1, t2, t3⟩, ⟨a1, a2, a3⟩, ⟨b1, b2, b3, b4⟩, ⟨c1, c2, c3⟩, ⟨d1, d2, d3, d4, d5, d6⟩, ⟨e1, e2, e3⟩, f1, f2, f3⟩, tp, ⟨D, A, B, hD, to1, to2⟩, sl, pl, hi, wd⟩ := hR0
  exact c_times t1 a2 a1 (hq _ (fun Q2 hq2 => m_times t3 a3 a1 (hq2 hR)))
theorem q_meets : pp_meets RelW := fun hc hm x0 x1 hR Q hq => by
  have hR0 := hR
  obtain ⟨o, s, R, ⟨S, N, P, NS, AT, WH, K, C, W, G, Lr, L, ⟨ho, t1, t2, t3⟩, ⟨a1, a2, a3⟩, ⟨b1, b2, b3, b4⟩, ⟨c1, c2, c3⟩, ⟨d1, d2, d3, d4, d5, d6⟩, ⟨e1, e2, e3⟩, f1, f2, f3⟩, tp, ⟨D, A, B, hD, to1, to2⟩, sl, pl, hi, wd⟩ := hR0
  exact c_meets t1 a2 a1 (hq _ (fun Q2 hq2 => m_meets t3 a3 a1 (hq2 hR)))
theorem q_pair : pp_pair RelW := fun hc hm x y hR Q hq => by
  have hR0 := hR
  obtain ⟨o, s, R, ⟨S, N, P, NS, AT, WH, K, C, W, G, Lr, L, ⟨ho, t1, t2, t3⟩, ⟨a1, a2, a3⟩, ⟨b1, b2, b3, b4⟩, ⟨c1, c2, c3⟩, ⟨d1, d2, d3, d4, d5, d6⟩, ⟨e1, e2, e3⟩, f1, f2, f3⟩, tp, ⟨D, A, B, hD, to1, to2⟩, sl, pl, hi, wd⟩ := hR0
  exact c_pair  (fun cc => hq _ (fun Q2 hq2 => m_pair  (fun dd => hq2 hR) (fun dd => absurd cc dd))) (fun cc => hq _ (fun Q2 hq2 => m_pair  (fun dd => absurd dd cc) (fun dd => hq2 hR)))
theorem q_alike : pp_alike RelW := fun hc hm x y hR Q hq => by
  have hR0 := hR
  obtain ⟨o, s, R, ⟨S, N, P, NS, AT, WH, K, C, W, G, Lr, L, ⟨ho, t1, t2, t3⟩, ⟨a1, a2, a3⟩, ⟨b1, b2, b3, b4⟩, ⟨c1, c2, c3⟩, ⟨d1, d2, d3, d4, d5, d6⟩, ⟨e1, e2, e3⟩, f1, f2, f3⟩, tp, ⟨D, A, B, hD, to1, to2⟩, sl, pl, hi, wd⟩ := hR0
  exact c_alike t1 a2 a1 b2.2 b1.2.1.1 (fun cc => hq _ (fun Q2 hq2 => m_alike t3 a3 a1 b4 b1.2.1.1 (fun dd => hq2 hR) (fun dd => absurd cc dd))) (fun cc => hq _ (fun Q2 hq2 => m_alike t3 a3 a1 b4 b1.2.1.1 (fun dd => absurd dd cc) (fun dd => hq2 hR)))
theorem q_cost : pp_cost RelW := fun hc hm x hR Q hq => by
  have hR0 := hR
  obtain ⟨o, s, R, ⟨S, N, P, NS, AT, WH, K, C, W, G, Lr, L, ⟨ho, t1, t2, t3⟩, ⟨a1, a2, a3⟩, ⟨b1, b2, b3, b4⟩, ⟨c1, c2, c3⟩, ⟨d1, d2, d3, d4, d5, d6⟩, ⟨e1, e2, e3⟩, f1, f2, f3⟩, tp, ⟨D, A, B, hD, to1, to2⟩, sl, pl, hi, wd⟩ := hR0
  exact c_cost to1 hD (fun cc => hq _ (fun Q2 hq2 => m_cost to2 hD (fun dd => hq2 hR) (fun dd => absurd cc dd))) (fun cc => hq _ (fun Q2 hq2 => m_cost to2 hD (fun dd => absurd dd cc) (fun dd => hq2 hR)))
theorem q_figure : pp_figure RelW := fun hc hm x y z hR Q hq => by
  have hR0 := hR
  obtain ⟨o, s, R, ⟨S, N, P, NS, AT, WH, K, C, W, G, Lr, L, ⟨ho, t1, t2, t3⟩, ⟨a1, a2, a3⟩, ⟨b1, b2, b3, b4⟩, ⟨c1, c2, c3⟩, ⟨d1, d2, d3, d4, d5, d6⟩, ⟨e1, e2, e3⟩, f1, f2, f3⟩, tp, ⟨D, A, B, hD, to1, to2⟩, sl, pl, hi, wd⟩ := hR0
  exact c_figure  (fun cc => hq _ (fun Q2 hq2 => m_figure  (fun dd => hq2 hR) (fun dd => absurd cc dd))) (fun cc => hq _ (fun Q2 hq2 => m_figure  (fun dd => absurd dd cc) (fun dd => hq2 hR)))
theorem q_bad : pp_bad RelW := fun hc hm x y hR Q hq => by
  have hR0 := hR
  obtain ⟨o, s, R, ⟨S, N, P, NS, AT, WH, K, C, W, G, Lr, L, ⟨ho, t1, t2, t3⟩, ⟨a1, a2, a3⟩, ⟨b1, b2, b3, b4⟩, ⟨c1, c2, c3⟩, ⟨d1, d2, d3, d4, d5, d6⟩, ⟨e1, e2, e3⟩, f1, f2, f3⟩, tp, ⟨D, A, B, hD, to1, to2⟩, sl, pl, hi, wd⟩ := hR0
  exact c_bad t1 c2 c1 (fun cc => hq _ (fun Q2 hq2 => m_bad t3 c3 c1 (fun dd => hq2 hR) (fun dd => absurd cc dd))) (fun cc => hq _ (fun Q2 hq2 => m_bad t3 c3 c1 (fun dd => absurd dd cc) (fun dd => hq2 hR)))
theorem q_badSet : pp_badSet RelW := fun hc hm x y hR Q hq => by
  have hR0 := hR
  obtain ⟨o, s, R, ⟨S, N, P, NS, AT, WH, K, C, W, G, Lr, L, ⟨ho, t1, t2, t3⟩, ⟨a1, a2, a3⟩, ⟨b1, b2, b3, b4⟩, ⟨c1, c2, c3⟩, ⟨d1, d2, d3, d4, d5, d6⟩, ⟨e1, e2, e3⟩, f1, f2, f3⟩, tp, ⟨D, A, B, hD, to1, to2⟩, sl, pl, hi, wd⟩ := hR0
  exact c_badSet t1 c2 c1 (fun cc => hq _ (fun Q2 hq2 => m_badSet t3 c3 c1 (fun dd => hq2 hR) (fun dd => absurd cc dd))) (fun cc => hq _ (fun Q2 hq2 => m_badSet t3 c3 c1 (fun dd => absurd dd cc) (fun dd => hq2 hR)))
theorem q_clash : pp_clash RelW := fun hc hm x y hR _ Q hq => by
  have hR0 := hR
  obtain ⟨o, s, R, ⟨S, N, P, NS, AT, WH, K, C, W, G, Lr, L, ⟨ho, t1, t2, t3⟩, ⟨a1, a2, a3⟩, ⟨b1, b2, b3, b4⟩, ⟨c1, c2, c3⟩, ⟨d1, d2, d3, d4, d5, d6⟩, ⟨e1, e2, e3⟩, f1, f2, f3⟩, tp, ⟨D, A, B, hD, to1, to2⟩, sl, pl, hi, wd⟩ := hR0
  exact c_clash d2 d1 (fun h1 cc x1 => hq _ h1 (fun Q2 hq2 => m_clash t3 d6 d1 (fun h2 dd x2 => hq2 h2 (Rel_scr x1 x2 hR)) (fun dd => absurd cc dd))) (fun cc => hq _ hc (fun Q2 hq2 => m_clash t3 d6 d1 (fun h2 dd x2 => absurd dd cc) (fun dd => hq2 hm hR)))
theorem q_few : pp_few RelW := fun hc hm x hR Q hq => by
  have hR0 := hR
  obtain ⟨o, s, R, ⟨S, N, P, NS, AT, WH, K, C, W, G, Lr, L, ⟨ho, t1, t2, t3⟩, ⟨a1, a2, a3⟩, ⟨b1, b2, b3, b4⟩, ⟨c1, c2, c3⟩, ⟨d1, d2, d3, d4, d5, d6⟩, ⟨e1, e2, e3⟩, f1, f2, f3⟩, tp, ⟨D, A, B, hD, to1, to2⟩, sl, pl, hi, wd⟩ := hR0
  exact c_few d2 d3 d1 (fun h1 cc x1 => hq _ h1 (fun Q2 hq2 => m_few t3 d6 d1 (fun h2 dd x2 => hq2 h2 (Rel_scr x1 x2 hR)) (fun dd => absurd cc dd))) (fun cc => hq _ hc (fun Q2 hq2 => m_few t3 d6 d1 (fun h2 dd x2 => absurd dd cc) (fun dd => hq2 hm hR)))
theorem q_worldsAt : pp_worldsAt RelW := fun hc hm x y hR Q hq => by
  have hR0 := hR
  obtain ⟨o, s, R, ⟨S, N, P, NS, AT, WH, K, C, W, G, Lr, L, ⟨ho, t1, t2, t3⟩, ⟨a1, a2, a3⟩, ⟨b1, b2, b3, b4⟩, ⟨c1, c2, c3⟩, ⟨d1, d2, d3, d4, d5, d6⟩, ⟨e1, e2, e3⟩, f1, f2, f3⟩, tp, ⟨D, A, B, hD, to1, to2⟩, sl, pl, hi, wd⟩ := hR0
  exact c_worldsAt d2 d1 (fun h1 cc x1 => hq _ h1 (fun Q2 hq2 => m_worldsAt t3 d6 d1 (fun dd => hq2 (Rel_scr x1 (eqE_refl hm) hR)) (fun dd => absurd cc dd))) (fun cc => hq _ hc (fun Q2 hq2 => m_worldsAt t3 d6 d1 (fun dd => absurd dd cc) (fun dd => hq2 hR)))
theorem q_fits : pp_fits RelW := fun hc hm x0 x1 x2 x3 hR Q hq => by
  have hR0 := hR
  obtain ⟨o, s, R, ⟨S, N, P, NS, AT, WH, K, C, W, G, Lr, L, ⟨ho, t1, t2, t3⟩, ⟨a1, a2, a3⟩, ⟨b1, b2, b3, b4⟩, ⟨c1, c2, c3⟩, ⟨d1, d2, d3, d4, d5, d6⟩, ⟨e1, e2, e3⟩, f1, f2, f3⟩, tp, ⟨D, A, B, hD, to1, to2⟩, sl, pl, hi, wd⟩ := hR0
  exact c_fits d2 d3 d1 to1 hD (fun h1 cc x1 => hq _ h1 (fun Q2 hq2 => m_fits t3 d6 d1 to2 hD (fun h2 dd x2 => hq2 h2 (Rel_scr x1 x2 hR)) (fun dd => absurd cc dd))) (fun cc => hq _ hc (fun Q2 hq2 => m_fits t3 d6 d1 to2 hD (fun h2 dd x2 => absurd dd cc) (fun dd => hq2 hm hR)))
theorem q_sure : pp_sure RelW := fun hc hm x0 x1 x2 hR Q hq => by
  have hR0 := hR
  obtain ⟨o, s, R, ⟨S, N, P, NS, AT, WH, K, C, W, G, Lr, L, ⟨ho, t1, t2, t3⟩, ⟨a1, a2, a3⟩, ⟨b1, b2, b3, b4⟩, ⟨c1, c2, c3⟩, ⟨d1, d2, d3, d4, d5, d6⟩, ⟨e1, e2, e3⟩, f1, f2, f3⟩, tp, ⟨D, A, B, hD, to1, to2⟩, sl, pl, hi, wd⟩ := hR0
  exact c_sure d2 d3 d1 to1 hD (fun h1 cc x1 => hq _ h1 (fun Q2 hq2 => m_sure t3 d6 d1 to2 hD (fun h2 dd x2 => hq2 h2 (Rel_scr x1 x2 hR)) (fun dd => absurd cc dd))) (fun cc => hq _ hc (fun Q2 hq2 => m_sure t3 d6 d1 to2 hD (fun h2 dd x2 => absurd dd cc) (fun dd => hq2 hm hR)))
theorem q_span : pp_span RelW := fun hc hm x0 x1 x2 x3 hR Q hq => by
  have hR0 := hR
  obtain ⟨o, s, R, ⟨S, N, P, NS, AT, WH, K, C, W, G, Lr, L, ⟨ho, t1, t2, t3⟩, ⟨a1, a2, a3⟩, ⟨b1, b2, b3, b4⟩, ⟨c1, c2, c3⟩, ⟨d1, d2, d3, d4, d5, d6⟩, ⟨e1, e2, e3⟩, f1, f2, f3⟩, tp, ⟨D, A, B, hD, to1, to2⟩, sl, pl, hi, wd⟩ := hR0
  exact c_span d2 d3 d1 to1 hD (fun h1 cc x1 => hq _ h1 (fun Q2 hq2 => m_span t3 d6 d1 to2 hD (fun h2 dd x2 => hq2 h2 (Rel_scr x1 x2 hR)) (fun dd => absurd cc dd))) (fun cc => hq _ hc (fun Q2 hq2 => m_span t3 d6 d1 to2 hD (fun h2 dd x2 => absurd dd cc) (fun dd => hq2 hm hR)))
theorem q_liars : pp_liars RelW := fun hc hm x0 x1 x2 hR Q hq => by
  have hR0 := hR
  obtain ⟨o, s, R, ⟨S, N, P, NS, AT, WH, K, C, W, G, Lr, L, ⟨ho, t1, t2, t3⟩, ⟨a1, a2, a3⟩, ⟨b1, b2, b3, b4⟩, ⟨c1, c2, c3⟩, ⟨d1, d2, d3, d4, d5, d6⟩, ⟨e1, e2, e3⟩, f1, f2, f3⟩, tp, ⟨D, A, B, hD, to1, to2⟩, sl, pl, hi, wd⟩ := hR0
  exact c_liars d2 d3 d1 to1 hD (fun h1 cc x1 => hq _ h1 (fun Q2 hq2 => m_liars t3 d6 d1 to2 hD (fun h2 dd x2 => hq2 h2 (Rel_scr x1 x2 hR)) (fun dd => absurd cc dd))) (fun cc => hq _ hc (fun Q2 hq2 => m_liars t3 d6 d1 to2 hD (fun h2 dd x2 => absurd dd cc) (fun dd => hq2 hm hR)))
theorem q_next : pp_next RelW := fun hc hm x0 x1 x2 x3 hR Q hq => by
  have hR0 := hR
  obtain ⟨o, s, R, ⟨S, N, P, NS, AT, WH, K, C, W, G, Lr, L, ⟨ho, t1, t2, t3⟩, ⟨a1, a2, a3⟩, ⟨b1, b2, b3, b4⟩, ⟨c1, c2, c3⟩, ⟨d1, d2, d3, d4, d5, d6⟩, ⟨e1, e2, e3⟩, f1, f2, f3⟩, tp, ⟨D, A, B, hD, to1, to2⟩, sl, pl, hi, wd⟩ := hR0
  exact c_next d2 d3 d1 to1 hD (fun h1 cc x1 => hq _ h1 (fun Q2 hq2 => m_next t3 d6 d1 to2 hD (fun h2 dd x2 => hq2 h2 (Rel_scr x1 x2 hR)) (fun dd => absurd cc dd))) (fun cc => hq _ hc (fun Q2 hq2 => m_next t3 d6 d1 to2 hD (fun h2 dd x2 => absurd dd cc) (fun dd => hq2 hm hR)))
theorem q_enough : pp_enough RelW := fun hc hm x0 x1 x2 hR Q hq => by
  have hR0 := hR
  obtain ⟨o, s, R, ⟨S, N, P, NS, AT, WH, K, C, W, G, Lr, L, ⟨ho, t1, t2, t3⟩, ⟨a1, a2, a3⟩, ⟨b1, b2, b3, b4⟩, ⟨c1, c2, c3⟩, ⟨d1, d2, d3, d4, d5, d6⟩, ⟨e1, e2, e3⟩, f1, f2, f3⟩, tp, ⟨D, A, B, hD, to1, to2⟩, sl, pl, hi, wd⟩ := hR0
  exact c_enough d2 d3 d1 to1 hD (fun h1 cc x1 => hq _ h1 (fun Q2 hq2 => m_enough t3 d6 d1 to2 hD (fun h2 dd x2 => hq2 h2 (Rel_scr x1 x2 hR)) (fun dd => absurd cc dd))) (fun cc => hq _ hc (fun Q2 hq2 => m_enough t3 d6 d1 to2 hD (fun h2 dd x2 => absurd dd cc) (fun dd => hq2 hm hR)))
theorem q_game : pp_game RelW := fun hc hm x y hR Q hq => by
  have hR0 := hR
  obtain ⟨o, s, R, ⟨S, N, P, NS, AT, WH, K, C, W, G, Lr, L, ⟨ho, t1, t2, t3⟩, ⟨a1, a2, a3⟩, ⟨b1, b2, b3, b4⟩, ⟨c1, c2, c3⟩, ⟨d1, d2, d3, d4, d5, d6⟩, ⟨e1, e2, e3⟩, f1, f2, f3⟩, tp, ⟨D, A, B, hD, to1, to2⟩, sl, pl, hi, wd⟩ := hR0
  exact c_game t1 ho d2 d1 f2 f1 (fun h1 cc x1 => hq _ h1 (fun Q2 hq2 => m_game t3 d6 d1 (mAskR_m f3) f1 (fun h2 dd x2 => hq2 h2 (Rel_scr x1 x2 hR)) (fun dd => absurd cc dd))) (fun cc => hq _ hc (fun Q2 hq2 => m_game t3 d6 d1 (mAskR_m f3) f1 (fun h2 dd x2 => absurd dd cc) (fun dd => hq2 hm hR)))
theorem q_asks : pp_asks RelW := fun hc hm hR Q hq => by
  have hR0 := hR
  obtain ⟨o, s, R, ⟨S, N, P, NS, AT, WH, K, C, W, G, Lr, L, ⟨ho, t1, t2, t3⟩, ⟨a1, a2, a3⟩, ⟨b1, b2, b3, b4⟩, ⟨c1, c2, c3⟩, ⟨d1, d2, d3, d4, d5, d6⟩, ⟨e1, e2, e3⟩, f1, f2, f3⟩, tp, ⟨D, A, B, hD, to1, to2⟩, sl, pl, hi, wd⟩ := hR0
  exact c_asks t1 ho to1 hD f2 f1 (fun h1 x1 => hq _ h1 (fun Q2 hq2 => m_asks t3 to2 hD (mAskR_m f3) f1 (fun h2 x2 => hq2 h2 (Rel_scr x1 x2 hR))))
theorem q_shareRow : pp_shareRow RelW := fun hc hm x y hR Q hq => by
  have hR0 := hR
  obtain ⟨o, s, R, ⟨S, N, P, NS, AT, WH, K, C, W, G, Lr, L, ⟨ho, t1, t2, t3⟩, ⟨a1, a2, a3⟩, ⟨b1, b2, b3, b4⟩, ⟨c1, c2, c3⟩, ⟨d1, d2, d3, d4, d5, d6⟩, ⟨e1, e2, e3⟩, f1, f2, f3⟩, tp, ⟨D, A, B, hD, to1, to2⟩, sl, pl, hi, wd⟩ := hR0
  exact c_shareRow t1 ho b2 b1 (fun h1 cc x1 => hq _ h1 (fun Q2 hq2 => m_shareRow t3 b3 b4 b1 (fun h2 dd x2 => hq2 h2 (Rel_scr x1 x2 hR)) (fun dd => absurd cc dd))) (fun cc => hq _ hc (fun Q2 hq2 => m_shareRow t3 b3 b4 b1 (fun h2 dd x2 => absurd dd cc) (fun dd => hq2 hm hR)))
theorem q_secret : pp_secret RelW := fun hc hm x hR Q hq => by
  have hR0 := hR
  obtain ⟨o, s, R, ⟨S, N, P, NS, AT, WH, K, C, W, G, Lr, L, ⟨ho, t1, t2, t3⟩, ⟨a1, a2, a3⟩, ⟨b1, b2, b3, b4⟩, ⟨c1, c2, c3⟩, ⟨d1, d2, d3, d4, d5, d6⟩, ⟨e1, e2, e3⟩, f1, f2, f3⟩, tp, ⟨D, A, B, hD, to1, to2⟩, sl, pl, hi, wd⟩ := hR0
  exact c_secret t1 ho b2 b1 (fun h1 cc x1 => hq _ h1 (fun Q2 hq2 => m_secret t3 b3 b4 b1 (fun dd => hq2 (Rel_scr x1 (eqE_refl hm) hR)) (fun dd => absurd cc dd))) (fun cc => hq _ hc (fun Q2 hq2 => m_secret t3 b3 b4 b1 (fun dd => absurd dd cc) (fun dd => hq2 hR)))
theorem q_shared : pp_shared RelW := fun hc hm x y hR Q hq => by
  have hR0 := hR
  obtain ⟨o, s, R, ⟨S, N, P, NS, AT, WH, K, C, W, G, Lr, L, ⟨ho, t1, t2, t3⟩, ⟨a1, a2, a3⟩, ⟨b1, b2, b3, b4⟩, ⟨c1, c2, c3⟩, ⟨d1, d2, d3, d4, d5, d6⟩, ⟨e1, e2, e3⟩, f1, f2, f3⟩, tp, ⟨D, A, B, hD, to1, to2⟩, sl, pl, hi, wd⟩ := hR0
  exact c_shared t1 ho b2 b1 (fun h1 cc x1 => hq _ h1 (fun Q2 hq2 => m_shared t3 b3 b4 b1 (fun dd => hq2 (Rel_scr x1 (eqE_refl hm) hR)) (fun dd => absurd cc dd))) (fun cc => hq _ hc (fun Q2 hq2 => m_shared t3 b3 b4 b1 (fun dd => absurd dd cc) (fun dd => hq2 hR)))
theorem q_place : pp_place RelW := fun hc hm hR Q hq => by
  obtain ⟨o, s, R, T, tp, to, sl, pl, hi, wd⟩ := id hR
  refine c_place (hq _ (fun Q2 hq2 => m_place ?_))
  have := hq2 hR
  rw [show gI hc 0 2 = gI hm 0 17 from pl] at this
  exact this
theorem q_rest : pp_rest RelW := fun hc hm x y hR Q hq => by
  obtain ⟨o, s, R, ⟨S, N, P, NS, AT, WH, K, C, W, G, Lr, L, ⟨ho, t1, t2, t3⟩, ⟨a1, a2, a3⟩, ⟨b1, b2, b3, b4⟩, ⟨c1, c2, c3⟩, ⟨d1, d2, d3, d4, d5, d6⟩, ⟨e1, e2, e3⟩, f1, f2, f3⟩, tp, to, sl, pl, hi, wd⟩ := id hR
  exact c_rest t1 a2 a1 b2.2 b1.2.1.1 (fun c c' => hq _ (fun Q2 hq2 => m_rest t3 a3 a1 b4 b1.2.1.1 (fun _ _ => hq2 hR) (fun n => absurd ⟨c, c'⟩ n))) (fun n => hq _ (fun Q2 hq2 => m_rest t3 a3 a1 b4 b1.2.1.1 (fun c c' => absurd ⟨c, c'⟩ n) (fun _ => hq2 hR)))
theorem q_unpair : pp_unpair RelW := fun hc hm x y hR _ Q hq =>
  c_unpair (fun d h1 h2 ht => hq _ (fun Q2 hq2 => m_unpair (fun d' _ _ ht' => by rw [isTri_one ht' ht]; exact hq2 hR) (fun n => absurd ⟨h1, h2⟩ n))) (fun n => hq _ (fun Q2 hq2 => m_unpair (fun d h1 h2 _ => absurd ⟨h1, h2⟩ n) (fun _ => hq2 hR)))
theorem q_once : pp_once RelW := fun hc hm hR Q hq => by
  obtain ⟨o, s, R, ⟨S, N, P, NS, AT, WH, K, C, W, G, Lr, L, ⟨ho, t1, t2, t3⟩, ⟨a1, a2, a3⟩, ⟨b1, b2, b3, b4⟩, ⟨c1, c2, c3⟩, ⟨d1, d2, d3, d4, d5, d6⟩, ⟨e1, e2, e3⟩, f1, f2, f3⟩, tp, to, sl, pl, hi, wd⟩ := id hR
  exact c_once d2 d1 (fun b h1 mn x1 => hq _ h1 (fun Q2 hq2 => m_once t3 d6 d1 (fun b' h2 mn' x2 => by rw [isMin_one mn' mn]; exact hq2 h2 (Rel_scr x1 x2 hR))))
theorem q_margin : pp_margin RelW := fun hc hm hR Q hq => by
  obtain ⟨o, s, R, ⟨S, N, P, NS, AT, WH, K, C, W, G, Lr, L, ⟨ho, t1, t2, t3⟩, ⟨a1, a2, a3⟩, ⟨b1, b2, b3, b4⟩, ⟨c1, c2, c3⟩, ⟨d1, d2, d3, d4, d5, d6⟩, ⟨e1, e2, e3⟩, f1, f2, f3⟩, tp, to, sl, pl, hi, wd⟩ := id hR
  exact c_margin t1 ho c2 c1 (fun k0 => hq _ hc (fun Q2 hq2 => m_margin t3 c3 c1 (fun _ => hq2 hR) (fun g kp _ => by omega))) (fun g h1 kp mn x1 => hq _ h1 (fun Q2 hq2 => m_margin t3 c3 c1 (fun k0 => by omega) (fun g' _ mn' => by rw [isMin_one mn' mn]; exact hq2 (Rel_scr x1 (eqE_refl hm) hR))))
theorem q_allTold : pp_allTold RelW := fun hc hm hR Q hq => by
  obtain ⟨o, s, R, ⟨S, N, P, NS, AT, WH, K, C, W, G, Lr, L, ⟨ho, t1, t2, t3⟩, ⟨a1, a2, a3⟩, ⟨b1, b2, b3, b4⟩, ⟨c1, c2, c3⟩, ⟨d1, d2, d3, d4, d5, d6⟩, ⟨e1, e2, e3⟩, f1, f2, f3⟩, tp, to, sl, pl, hi, wd⟩ := id hR
  exact c_allTold t1 ho c2 c1 (fun h1 c x1 => hq _ h1 (fun Q2 hq2 => m_allTold t3 c3 c1 (fun _ => hq2 (Rel_scr x1 (eqE_refl hm) hR)) (fun n => absurd c n))) (fun h1 n x1 => hq _ h1 (fun Q2 hq2 => m_allTold t3 c3 c1 (fun c => absurd c n) (fun _ => hq2 (Rel_scr x1 (eqE_refl hm) hR))))
theorem q_wrong : pp_wrong RelW := fun hc hm x hR Q hq => by
  obtain ⟨o, s, R, ⟨S, N, P, NS, AT, WH, K, C, W, G, Lr, L, ⟨ho, t1, t2, t3⟩, ⟨a1, a2, a3⟩, ⟨b1, b2, b3, b4⟩, ⟨c1, c2, c3⟩, ⟨d1, d2, d3, d4, d5, d6⟩, ⟨e1, e2, e3⟩, f1, f2, f3⟩, tp, to, sl, pl, hi, wd⟩ := id hR
  exact c_wrong t1 ho b2 b1 (fun n => hq _ hc (fun Q2 hq2 => m_wrong t3 b3 b4 b1 (fun _ => hq2 hR) (fun c _ => absurd c n) (fun _ c _ _ => absurd c n))) (fun c lt => hq _ hc (fun Q2 hq2 => m_wrong t3 b3 b4 b1 (fun n => absurd c n) (fun _ _ => hq2 hR) (fun _ _ le _ => by omega))) (fun w h1 c le e x1 => hq _ h1 (fun Q2 hq2 => m_wrong t3 b3 b4 b1 (fun n => absurd c n) (fun _ lt => by omega) (fun w' _ _ e' => by rw [e] at e'; rw [← Option.some.inj e']; exact hq2 (Rel_scr x1 (eqE_refl hm) hR))))
theorem q_two : pp_two RelW := fun hc hm x y hR Q hq => by
  obtain ⟨o, s, R, ⟨S, N, P, NS, AT, WH, K, C, W, G, Lr, L, ⟨ho, t1, t2, t3⟩, ⟨a1, a2, a3⟩, ⟨b1, b2, b3, b4⟩, ⟨c1, c2, c3⟩, ⟨d1, d2, d3, d4, d5, d6⟩, ⟨e1, e2, e3⟩, f1, f2, f3⟩, tp, to, sl, pl, hi, wd⟩ := id hR
  exact c_two t1 a2 a1 (fun n => hq _ (fun Q2 hq2 => m_two t3 a3 a1 (fun _ => hq2 hR) (fun c _ => absurd c n) (fun c _ => absurd c n))) (fun c b => hq _ (fun Q2 hq2 => m_two t3 a3 a1 (fun n => absurd c n) (fun _ _ => hq2 hR) (fun _ n => absurd b n))) (fun c b => hq _ (fun Q2 hq2 => m_two t3 a3 a1 (fun n => absurd c n) (fun _ n => absurd n b) (fun _ _ => hq2 hR)))
theorem q_number : pp_number RelW := fun hc hm x hR Q hq => by
  obtain ⟨o, s, R, ⟨S, N, P, NS, AT, WH, K, C, W, G, Lr, L, ⟨ho, t1, t2, t3⟩, ⟨a1, a2, a3⟩, ⟨b1, b2, b3, b4⟩, ⟨c1, c2, c3⟩, ⟨d1, d2, d3, d4, d5, d6⟩, ⟨e1, e2, e3⟩, f1, f2, f3⟩, tp, to, sl, pl, hi, wd⟩ := id hR
  exact c_number t1 a2 a1 (fun n => hq _ (fun Q2 hq2 => m_number t3 a3 a1 (fun _ => hq2 hR) (fun c _ => absurd c n) (fun c => absurd c.1 n))) (fun c b => hq _ (fun Q2 hq2 => m_number t3 a3 a1 (fun n => absurd c n) (fun _ _ => hq2 hR) (fun n => absurd n b))) (fun c => hq _ (fun Q2 hq2 => m_number t3 a3 a1 (fun n => absurd c.1 n) (fun _ n => absurd c n) (fun _ => hq2 hR)))
theorem q_world : pp_world RelW := fun hc hm x y hR Q hq => by
  obtain ⟨o, s, R, ⟨S, N, P, NS, AT, WH, K, C, W, G, Lr, L, ⟨ho, t1, t2, t3⟩, ⟨a1, a2, a3⟩, ⟨b1, b2, b3, b4⟩, ⟨c1, c2, c3⟩, ⟨d1, d2, d3, d4, d5, d6⟩, ⟨e1, e2, e3⟩, f1, f2, f3⟩, tp, to, sl, pl, hi, wd⟩ := id hR
  exact c_world d2 d1 (fun k => hq _ (fun Q2 hq2 => m_world t3 d6 d1 (fun _ => hq2 hR) (fun n _ => absurd k n) (fun n _ => absurd k n))) (fun n i => hq _ (fun Q2 hq2 => m_world t3 d6 d1 (fun k => absurd k n) (fun _ _ => hq2 hR) (fun _ z => absurd i z))) (fun n z => hq _ (fun Q2 hq2 => m_world t3 d6 d1 (fun k => absurd k n) (fun _ i => absurd i z) (fun _ _ => hq2 hR)))
theorem q_count : pp_count RelW := fun hc hm x hR Q hq => by
  obtain ⟨o, s, R, ⟨S, N, P, NS, AT, WH, K, C, W, G, Lr, L, ⟨ho, t1, t2, t3⟩, ⟨a1, a2, a3⟩, ⟨b1, b2, b3, b4⟩, ⟨c1, c2, c3⟩, ⟨d1, d2, d3, d4, d5, d6⟩, ⟨e1, e2, e3⟩, f1, f2, f3⟩, ⟨n, f, tp1, tp2, tpb⟩, ⟨D, A, B, hD, to1, to2⟩, ⟨F, hF⟩, pl, ⟨hi1, hi2⟩, wd⟩ := id hR
  refine c_count (V := fun k => ([gI hc o 0, gI hc (o + 9) 0, gI hc (o + 15) 0, gI hc (o + 9) 1, gI hc o 7, gI hc o 8, gI hc 0 1, gI hc 51 0, slV F, gI hc o 9, gI hc 0 7, gI hc 0 8] : List Int32).getD k 0) t1 rfl rfl rfl rfl rfl rfl rfl rfl (fun i hi => ⟨(hF i hi).1, (hF i hi).2.1⟩) rfl rfl rfl rfl (hq _ (fun Q2 hq2 => m_count t3 ?_ ?_ ?_ ?_ ?_ ?_ ?_ ?_ (fun i hi => ⟨(hF i hi).1, (hF i hi).2.2.1⟩) rfl ?_ ?_ ?_ ?_ (hq2 hR)))
  · show gI hm 9 s = gI hc o 0
    rw [a3.1, a2.1]
  · show gI hm 13 s = gI hc (o + 9) 0
    rw [b3.1, b2.1.1]
  · show gI hm 17 s = gI hc (o + 15) 0
    rw [c3.1, c2.1]
  · show gI hm 12 s = gI hc (o + 9) 1
    rw [b4, b2.2]
  · show gI hm 19 s = gI hc o 7
    rw [d6.1, d4]
  · show gI hm 20 s = gI hc o 8
    rw [d6.2, d5]
  · show gI hm 0 2 = gI hc 0 1
    rw [tp1.1, tp2.1]
  · show gI hm 0 57 = gI hc 51 0
    rw [to1.1, to2.1]
  · show gI hm 21 s = gI hc o 9
    rw [e2, e3]
  · intro q
    show gI hm 0 61 = gI hc 0 7
    rcases hi2 with ⟨z1, z2⟩ | ⟨r, _, z1, z2⟩
    · rw [z2] at q; exact absurd q (by decide)
    · rw [z1, z2]
  · intro q
    show -2 = gI hc 0 7
    rcases hi2 with ⟨z1, z2⟩ | ⟨r, hr, z1, z2⟩
    · rw [z1]
    · rw [z2] at q
      have := a1.1
      exact absurd (nI_pos' (by omega)) q
  · exact hi1.symm
/-! those that change what was told -/
/-- all but one group of cells -/
theorem Rel_build {hc hm hc1 hm1 : hp} {o s R : Nat} (T : Rtx hc hm o s R) (ec : agI (fun a j => ¬ cOut a j) hc hc1) (er : ∀ i, gR hc1 i = gR hc i) (em : agI (fun a j => ¬ mOut a j) hm hm1) (tp : rTp hc1 hm1) (to : rTo hc1 hm1) (sl : rSl hc1 hm1) (pl : rPl hc1 hm1) (hi : rHi hc1 hm1 R) (wd : rWd hc1 hm1) : RelW hc1 hm1 := ⟨o, s, R, Rtx_f ec er em T, tp, to, sl, pl, hi, wd⟩
theorem ag_cAdd {X : Nat → Nat → Prop} {h h1 : hp} {D : Nat} {x : Int32} {y : Int64} (e : agI X h h1) (n : ∀ a j, X a j → ¬ (a = 51 ∨ a = 52 ∨ a = 53)) : agI X h (cAdd 51 h1 D x y) := by
  unfold cAdd
  exact agI_sI (agI_sL (agI_sI e (fun q => n _ _ q (by omega))) (fun q => n _ _ q (by omega))) (fun q => n _ _ q (by omega))
theorem ag_mAdd {X : Nat → Nat → Prop} {h h1 : hp} {D : Nat} {x : Int32} {y : Int64} (e : agI X h h1) (n : ∀ a j, X a j → ¬ (a = 38 ∨ a = 39 ∨ (a = 0 ∧ j = 57))) : agI X h (mAdd h1 D x y) := by
  unfold mAdd
  exact agI_sI (agI_sL (agI_sI e (fun q => n _ _ q (by omega))) (fun q => n _ _ q (by omega))) (fun q => n _ _ q (by omega))
theorem q_tell : pp_tell RelW := fun hc hm x y hR Q hq => by
  obtain ⟨o, s, R, T, tp, ⟨D, A, B, hD, to1, to2⟩, sl, pl, hi, wd⟩ := id hR
  refine c_tell to1 hD (fun c => hq _ _ (fun Q2 hq2 => m_tell to2 hD (fun _ => hq2 _ ?_) (fun n => absurd c n))) (fun n => hq _ _ (fun Q2 hq2 => m_tell to2 hD (fun c => absurd c n) (fun _ => hq2 _ hR)))
  refine Rel_build T (ag_cAdd (agI_r _) (fun a j q z => q (by unfold cOut; omega))) (fun _ => rfl) (ag_mAdd (agI_r _) (fun a j q z => q (by unfold mOut; omega))) (rTp_f (ag_cAdd (agI_r _) ?_) (ag_mAdd (agI_r _) ?_) tp) ⟨D + 1, _, _, by have := c.1; omega, cTold_add to1, mTold_add to2⟩ (rSl_f (ag_cAdd (agI_r _) ?_) (ag_mAdd (agI_r _) ?_) sl) (rPl_f (ag_cAdd (agI_r _) ?_) (ag_mAdd (agI_r _) ?_) pl) (rHi_f (ag_cAdd (agI_r _) ?_) (ag_mAdd (agI_r _) ?_) hi) (rWd_f (fun i => ?_) (fun i => ?_) wd)
  · intro a j q; unfold kTpC at q; omega
  · intro a j q; unfold kTpM at q; omega
  · intro a j q; unfold kSlC at q; omega
  · intro a j q; unfold kSlM at q; omega
  · intro a j q; unfold kPlC at q; omega
  · intro a j q; unfold kPlM at q; omega
  · intro a j q; unfold kHiC at q; omega
  · intro a j q; unfold kHiM at q; omega
  · unfold cAdd; rw [gL_sI, gL_o _ _ (by decide), gL_sI]
  · unfold mAdd; rw [gL_sI, gL_o _ _ (by decide), gL_sI]
theorem q_forget : pp_forget RelW := fun hc hm hR Q hq => by
  obtain ⟨o, s, R, T, tp, ⟨D, A, B, hD, to1, to2⟩, sl, pl, hi, wd⟩ := id hR
  refine c_forget to1 (hq _ _ (fun Q2 hq2 => m_forget to2 (hq2 _ ?_)))
  refine Rel_build T (agI_sI (agI_r _) (fun q => q (by unfold cOut; omega))) (fun _ => rfl) (agI_sI (agI_r _) (fun q => q (by unfold mOut; omega))) (rTp_f (agI_sI (agI_r _) ?_) (agI_sI (agI_r _) ?_) tp) ⟨0, A, B, by omega, ⟨gI_at _ _ _ _, fun k hk => by omega⟩, gI_at _ _ _ _, fun k hk => by omega⟩ (rSl_f (agI_sI (agI_r _) ?_) (agI_sI (agI_r _) ?_) sl) (rPl_f (agI_sI (agI_r _) ?_) (agI_sI (agI_r _) ?_) pl) (rHi_f (agI_sI (agI_r _) ?_) (agI_sI (agI_r _) ?_) hi) (rWd_f (fun i => rfl) (fun i => rfl) wd)
  · unfold kTpC; omega
  · unfold kTpM; omega
  · unfold kSlC; omega
  · unfold kSlM; omega
  · unfold kPlC; omega
  · unfold kPlM; omega
  · unfold kHiC; omega
  · unfold kHiM; omega
theorem q_hide : pp_hide RelW := fun hc hm x hR Q hq => by
  obtain ⟨o, s, R, T, tp, ⟨D, A, B, hD, to1, to2⟩, sl, pl, hi, wd⟩ := id hR
  have T0 := T
  obtain ⟨S, N, P, NS, AT, WH, K, C, W, G, Lr, L, ⟨ho, t1, t2, t3⟩, ⟨a1, a2, a3⟩, _⟩ := T0
  refine c_hide t1 a2 a1 (fun c => hq _ _ (fun Q2 hq2 => m_hide t3 a3 a1 (fun _ => hq2 _ ?_) (fun n => absurd c n))) (fun n => hq _ _ (fun Q2 hq2 => m_hide t3 a3 a1 (fun c => absurd c n) (fun _ => hq2 _ hR)))
  have ac : ∀ X : Nat → Nat → Prop, (∀ a j, X a j → ¬ (a = 51 ∨ (a = 0 ∧ (j = 7 ∨ j = 8)))) → agI X hc (sI (sI (sI hc 0 7 x) 0 8 0) 51 0 0) := fun X n => agI_sI (agI_sI (agI_sI (agI_r _) (fun q => n _ _ q (by omega))) (fun q => n _ _ q (by omega))) (fun q => n _ _ q (by omega))
  have am : ∀ X : Nat → Nat → Prop, (∀ a j, X a j → ¬ (a = 0 ∧ (j = 57 ∨ j = 61 ∨ j = 62))) → agI X hm (sI (sI (sI hm 0 61 x) 0 62 0) 0 57 0) := fun X n => agI_sI (agI_sI (agI_sI (agI_r _) (fun q => n _ _ q (by omega))) (fun q => n _ _ q (by omega))) (fun q => n _ _ q (by omega))
  refine Rel_build T (ac _ (fun a j q z => q (by unfold cOut; omega))) (fun _ => rfl) (am _ (fun a j q z => q (by unfold mOut; omega))) (rTp_f (ac _ ?_) (am _ ?_) tp) ⟨0, A, B, by omega, ⟨gI_at _ _ _ _, fun k hk => by omega⟩, gI_at _ _ _ _, fun k hk => by omega⟩ (rSl_f (ac _ ?_) (am _ ?_) sl) (rPl_f (ac _ ?_) (am _ ?_) pl) ⟨?_, Or.inr ?_⟩ (rWd_f (fun i => rfl) (fun i => rfl) wd)
  · intro a j q; unfold kTpC at q; omega
  · intro a j q; unfold kTpM at q; omega
  · intro a j q; unfold kSlC at q; omega
  · intro a j q; unfold kSlM at q; omega
  · intro a j q; unfold kPlC at q; omega
  · intro a j q; unfold kPlM at q; omega
  · rw [gI_o _ _ (by decide), gI_at, gI_k _ _ (by decide), gI_at]
  · obtain ⟨r, hr, er, _⟩ := isR_n c
    refine ⟨r, hr, ?_, ?_⟩
    · rw [gI_o _ _ (by decide), gI_k _ _ (by decide), gI_at]; exact er
    · rw [gI_k _ _ (by decide), gI_k _ _ (by decide), gI_at]; exact er
theorem q_ask : pp_ask RelW := fun hc hm x hR Q hq => by
  obtain ⟨o, s, R, T, tp, ⟨D, A, B, hD, to1, to2⟩, sl, pl, ⟨hi1, hi2⟩, wd⟩ := id hR
  have T0 := T
  obtain ⟨S, N, P, NS, AT, WH, K, C, W, G, Lr, L, ⟨ho, t1, t2, t3⟩, ⟨a1, a2, a3⟩, _, _, _, ⟨e1, e2, e3⟩, _⟩ := T0
  have hR6 := a1.1
  have iff : isR R (gI hc 0 7) ↔ isR R (gI hm 0 61) := by
    rcases hi2 with ⟨z1, z2⟩ | ⟨r, hr, z1, z2⟩
    · rw [z1, z2]
      exact ⟨fun q => absurd q.1 (by decide), fun q => absurd q.1 (by decide)⟩
    · rw [z1, z2]
  have hh : gI hm 0 61 = -1 ∨ ∃ r, r < R ∧ gI hm 0 61 = nI r := by
    rcases hi2 with ⟨z1, z2⟩ | ⟨r, hr, z1, z2⟩
    · exact Or.inl z2
    · exact Or.inr ⟨r, hr, z2⟩
  refine c_ask t1 (by rcases ho with q | q <;> subst q <;> decide) a2 a1 to1 hD rfl e2 e1 (fun r hr er okk => hq _ _ (fun Q2 hq2 => m_ask t3 a3 a1 to2 hD hi1.symm e3 e1 (fun r' hr' er' _ => ?_) hh (fun n => absurd ⟨iff.mp (by rw [er]; exact ⟨by rw [n_toInt (by omega)]; omega, by rw [n_toInt (by omega)]; omega⟩), okk⟩ n))) (fun n => hq _ _ (fun Q2 hq2 => m_ask t3 a3 a1 to2 hD hi1.symm e3 e1 (fun r hr er okk => absurd ⟨iff.mpr (by rw [er]; exact ⟨by rw [n_toInt (by omega)]; omega, by rw [n_toInt (by omega)]; omega⟩), okk⟩ n) hh (fun _ => hq2 _ hR)))
  have err : r' = r := by
    rcases hi2 with ⟨z1, z2⟩ | ⟨q, hq', z1, z2⟩
    · rw [er'] at z2
      have := congrArg Int32.toInt z2
      rw [n_toInt (by omega), show (-1 : Int32).toInt = -1 from rfl] at this
      omega
    · rw [er] at z1
      rw [er'] at z2
      have q1 := (nI_eq (by omega) (by omega)).mp z1
      have q2 := (nI_eq (by omega) (by omega)).mp z2
      omega
  rw [err]
  refine hq2 _ ?_
  have ac : ∀ X : Nat → Nat → Prop, (∀ a j, X a j → ¬ (a = 51 ∨ a = 52 ∨ a = 53 ∨ (a = 0 ∧ j = 8))) → agI X hc (cAdd 51 (sI hc 0 8 (gI hc 0 8 + 1)) D x (askV R S N r Lr (gI hc 0 8) x)) := fun X n => ag_cAdd (agI_sI (agI_r _) (fun q => n _ _ q (by omega))) (fun a j q z => n _ _ q (by omega))
  have am : ∀ X : Nat → Nat → Prop, (∀ a j, X a j → ¬ (a = 38 ∨ a = 39 ∨ (a = 0 ∧ (j = 57 ∨ j = 62)))) → agI X hm (mAdd (sI hm 0 62 (gI hc 0 8 + 1)) D x (askV R S N r Lr (gI hc 0 8) x)) := fun X n => ag_mAdd (agI_sI (agI_r _) (fun q => n _ _ q (by omega))) (fun a j q z => n _ _ q (by omega))
  refine Rel_build T (ac _ (fun a j q z => q (by unfold cOut; omega))) (fun _ => rfl) (am _ (fun a j q z => q (by unfold mOut; omega))) (rTp_f (ac _ ?_) (am _ ?_) tp) ⟨D + 1, _, _, by have := okk.1; omega, cTold_add (cTold_f (by decide) (by decide) to1), mTold_add (mTold_f0 (by decide) to2)⟩ (rSl_f (ac _ ?_) (am _ ?_) sl) (rPl_f (ac _ ?_) (am _ ?_) pl) ⟨?_, ?_⟩ (rWd_f (fun i => ?_) (fun i => ?_) wd)
  · intro a j q; unfold kTpC at q; omega
  · intro a j q; unfold kTpM at q; omega
  · intro a j q; unfold kSlC at q; omega
  · intro a j q; unfold kSlM at q; omega
  · intro a j q; unfold kPlC at q; omega
  · intro a j q; unfold kPlM at q; omega
  · unfold cAdd mAdd
    rw [gI_o _ _ (by decide), gI_sL, gI_o _ _ (by decide), gI_at, gI_k _ _ (by decide), gI_sL, gI_o _ _ (by decide), gI_at]
  · unfold cAdd mAdd
    rw [gI_o _ _ (by decide), gI_sL, gI_o _ _ (by decide), gI_k _ _ (by decide), gI_k _ _ (by decide), gI_sL, gI_o _ _ (by decide), gI_k _ _ (by decide)]
    exact hi2
  · unfold cAdd; rw [gL_sI, gL_o _ _ (by decide), gL_sI, gL_sI]
  · unfold mAdd; rw [gL_sI, gL_o _ _ (by decide), gL_sI, gL_sI]
/-! the tape -/
theorem ag_tape4 {X : Nat → Nat → Prop} {d : Nat} {g : Int32 → Int32} {h h1 : hp} {n : Nat} (e : agI X h h1) (q1 : ∀ j, ¬ X 1 j) (q0 : ¬ X 0 d) : agI X h (tape4 d g h1 n) := by
  have one : ∀ {h1 : hp} {n : Nat} {v : Int32}, agI X h h1 → agI X h (tape1 d h1 n v) := fun e => agI_sI (agI_sI e (q1 _)) q0
  exact one (one (one (one e)))
theorem ag_tape20 {X : Nat → Nat → Prop} {d : Nat} {g : Int32 → Int32 → Int32} {h h1 : hp} {n : Nat} {x0 x1 x2 x3 x4 : Int32} (e : agI X h h1) (q1 : ∀ j, ¬ X 1 j) (q0 : ¬ X 0 d) : agI X h (tape20 d g h1 n x0 x1 x2 x3 x4) :=
  ag_tape4 (ag_tape4 (ag_tape4 (ag_tape4 (ag_tape4 e q1 q0) q1 q0) q1 q0) q1 q0) q1 q0
theorem tape4_L {d : Nat} {g : Int32 → Int32} {h : hp} {n : Nat} (a j : Nat) : gL (tape4 d g h n) a j = gL h a j := rfl
theorem q_feed : pp_feed RelW := fun hc hm x0 x1 x2 x3 x4 hR Q hq => by
  obtain ⟨o, s, R, T, ⟨n, f, tp1, tp2, tpb⟩, to, sl, pl, hi, wd⟩ := id hR
  refine c_feed tp1 (fun c => hq _ _ (fun Q2 hq2 => m_feed tp2 (fun _ => hq2 _ ?_) (fun z => absurd c z))) (fun z => hq _ _ (fun Q2 hq2 => m_feed tp2 (fun c => absurd c z) (fun _ => hq2 _ hR)))
  have ac : ∀ X : Nat → Nat → Prop, (∀ a j, X a j → ¬ (a = 1 ∨ (a = 0 ∧ j = 1))) → agI X hc (tape20 1 gC hc n x0 x1 x2 x3 x4) := fun X q => ag_tape20 (agI_r _) (fun j z => q _ _ z (by omega)) (fun z => q _ _ z (by omega))
  have am : ∀ X : Nat → Nat → Prop, (∀ a j, X a j → ¬ (a = 1 ∨ (a = 0 ∧ j = 2))) → agI X hm (tape20 2 gM hm n x0 x1 x2 x3 x4) := fun X q => ag_tape20 (agI_r _) (fun j z => q _ _ z (by omega)) (fun z => q _ _ z (by omega))
  refine Rel_build T (ac _ (fun a j q z => q (by unfold cOut; omega))) (fun _ => rfl) (am _ (fun a j q z => q (by unfold mOut; omega))) ⟨n + 20, _, aTape_20 tp1 (by omega), by rw [fApp20_same]; exact aTape_20 tp2 (by omega), by rw [fApp20_same]; exact isBy_20 tpb⟩ (rTo_f (ac _ ?_) (am _ ?_) to) (rSl_f (ac _ ?_) (am _ ?_) sl) (rPl_f (ac _ ?_) (am _ ?_) pl) (rHi_f (ac _ ?_) (am _ ?_) hi) (rWd_f (fun i => rfl) (fun i => rfl) wd)
  · intro a j q; unfold kToC at q; omega
  · intro a j q; unfold kToM at q; omega
  · intro a j q; unfold kSlC at q; omega
  · intro a j q; unfold kSlM at q; omega
  · intro a j q; unfold kPlC at q; omega
  · intro a j q; unfold kPlM at q; omega
  · intro a j q; unfold kHiC at q; omega
  · intro a j q; unfold kHiM at q; omega
theorem q_back : pp_back RelW := fun hc hm x hR Q hq => by
  obtain ⟨o, s, R, T, ⟨n, f, tp1, tp2, tpb⟩, to, sl, pl, hi, wd⟩ := id hR
  refine c_back tp1 (fun c => hq _ _ (fun Q2 hq2 => m_back tp2 (fun _ => hq2 _ ?_) (fun z => absurd c z))) (fun z => hq _ _ (fun Q2 hq2 => m_back tp2 (fun c => absurd c z) (fun _ => hq2 _ hR)))
  have hk : x.toInt.toNat ≤ n := by have := c.1; have := c.2; omega
  refine Rel_build T (agI_sI (agI_r _) (fun q => q (by unfold cOut; omega))) (fun _ => rfl) (agI_sI (agI_r _) (fun q => q (by unfold mOut; omega))) ⟨_, f, x_back tp1 hk, x_back tp2 hk, fun k hk2 => tpb k (by omega)⟩ (rTo_f (agI_sI (agI_r _) ?_) (agI_sI (agI_r _) ?_) to) (rSl_f (agI_sI (agI_r _) ?_) (agI_sI (agI_r _) ?_) sl) (rPl_f (agI_sI (agI_r _) ?_) (agI_sI (agI_r _) ?_) pl) (rHi_f (agI_sI (agI_r _) ?_) (agI_sI (agI_r _) ?_) hi) (rWd_f (fun i => rfl) (fun i => rfl) wd)
  · unfold kToC; omega
  · unfold kToM; omega
  · unfold kSlC; omega
  · unfold kSlM; omega
  · unfold kPlC; omega
  · unfold kPlM; omega
  · unfold kHiC; omega
  · unfold kHiM; omega
/-! slots -/
theorem cCopy_I {o o1 a j : Nat} {h : hp} (n0 : ¬ a = o) (n1 : ¬ a = o + 1) : gI (cCopy o o1 h) a j = gI h a j := by
  show (if a = o + 1 then _ else gI (sI h o 0 (gI h o1 0)) a : Nat → Int32) j = _
  rw [if_neg n1, gI_o _ _ n0]
theorem cCopy_L {o o1 a j : Nat} {h : hp} (n2 : ¬ a = o + 2) : gL (cCopy o o1 h) a j = gL h a j := by
  show (if a = o + 2 then _ else gL h a : Nat → Int64) j = _
  rw [if_neg n2]
theorem ag_copy {X : Nat → Nat → Prop} {o o1 : Nat} {h : hp} (n : ∀ a j, X a j → ¬ (a = o ∨ a = o + 1 ∨ a = o + 2)) : agI X h (cCopy o o1 h) := fun a j x => ⟨cCopy_I (fun q => n a j x (by omega)) (fun q => n a j x (by omega)), cCopy_L (fun q => n a j x (by omega))⟩
theorem ag_mPut {X : Nat → Nat → Prop} {i : Nat} {h : hp} (n : ∀ a j, X a j → ¬ (a = 47 ∨ a = 48)) (k : Nat) : agI X h (mPut i h k) := fun a j x => ⟨by rw [mPut_I, if_neg (fun q => n a j x (by omega))], by rw [mPut_L, if_neg (fun q => n a j x (by omega))]⟩
theorem ag_mTake {X : Nat → Nat → Prop} {i : Nat} {h : hp} (n : ∀ a j, X a j → ¬ (a = 38 ∨ a = 39)) (k : Nat) : agI X h (mTake i h k) := fun a j x => ⟨by rw [mTake_I, if_neg (fun q => n a j x (by omega))], by rw [mTake_L, if_neg (fun q => n a j x (by omega))]⟩
theorem q_hold : pp_hold RelW := fun hc hm x hR Q hq => by
  obtain ⟨o, s, R, T, tp, to, ⟨F, hF⟩, pl, hi, wd⟩ := id hR
  have to0 := to
  obtain ⟨D, A, B, hD, to1, to2⟩ := to0
  refine c_hold (fun i hi3 ex => hq _ _ (fun Q2 hq2 => m_hold (fun i' hi3' ex' => ?_) (fun n => absurd (by rw [ex]; exact ⟨by rw [n_toInt (by omega)]; omega, by rw [n_toInt (by omega)]; omega⟩) n))) (fun n => hq _ _ (fun Q2 hq2 => m_hold (fun i hi3 ex => absurd (by rw [ex]; exact ⟨by rw [n_toInt (by omega)]; omega, by rw [n_toInt (by omega)]; omega⟩) n) (fun _ => hq2 _ hR)))
  have ei : i' = i := by
    rw [ex] at ex'
    exact ((nI_eq (by omega) (by omega)).mp ex').symm
  subst ei
  refine hq2 _ ?_
  have ac : ∀ X : Nat → Nat → Prop, (∀ a j, X a j → ¬ (54 + 3 * i' ≤ a ∧ a ≤ 56 + 3 * i')) → agI X hc (sI (cCopy (54 + 3 * i') 51 hc) (54 + 3 * i') 3 1) := fun X n => agI_sI (ag_copy (fun a j q z => n a j q (by omega))) (fun q => n _ _ q (by omega))
  have am : ∀ X : Nat → Nat → Prop, (∀ a j, X a j → ¬ (a = 47 ∨ a = 48 ∨ ((a = 45 ∨ a = 46) ∧ j = i'))) → agI X hm (mHold i' hm) := fun X n => agI_t (agI_sI (agI_sI (agI_r _) (fun q => n _ _ q (by omega))) (fun q => n _ _ q (by omega))) (ag_mPut (fun a j q z => n a j q (by omega)) 20)
  have hold : ∀ k, k < 3 → ¬ k = i' → agI (fun a j => (a = 45 ∨ a = 46) ∧ j = k ∨ ((a = 47 ∨ a = 48) ∧ 20 * k ≤ j ∧ j < 20 * k + 20)) hm (mHold i' hm) := fun k hk nk a j q => by
    unfold mHold
    refine ⟨?_, ?_⟩
    · rw [mPut_I, if_neg (by omega)]
      rcases q with ⟨q1, q2⟩ | ⟨q1, q2⟩
      · rw [gI_sI, if_neg (by omega), gI_sI, if_neg (by omega)]
      · rw [gI_o _ _ (by omega), gI_o _ _ (by omega)]
    · rw [mPut_L, if_neg (by omega), gL_sI, gL_sI]
  refine Rel_build T (ac _ (fun a j q z => q (by unfold cOut; omega))) (fun _ => rfl) (am _ (fun a j q z => q (by unfold mOut; omega))) (rTp_f (ac _ ?_) (am _ ?_) tp) (rTo_f (ac _ ?_) (am _ ?_) to) ⟨fun k => if k = i' then 1 else F k, fun k hk => ?_⟩ (rPl_f (ac _ ?_) (am _ ?_) pl) (rHi_f (ac _ ?_) (am _ ?_) hi) (rWd_f (fun i => ?_) (fun i => ?_) wd)
  · intro a j q; unfold kTpC at q; omega
  · intro a j q; unfold kTpM at q; omega
  · intro a j q; unfold kToC at q; omega
  · intro a j q; unfold kToM at q; omega
  · by_cases e : k = i'
    · subst e
      show (if k = k then 1 else F k) ≤ 1 ∧ _ = nI (if k = k then 1 else F k) ∧ _ = nI (if k = k then 1 else F k) ∧ ((if k = k then 1 else F k) = 1 → _)
      rw [if_pos rfl]
      refine ⟨Nat.le_refl _, gI_at _ _ _ _, ?_, fun _ => ⟨D, A, B, hD, ?_, mSlot_hold hD to2⟩⟩
      · unfold mHold
        rw [mPut_I, if_neg (by omega), gI_o _ _ (by decide)]
        exact gI_at _ _ _ _
      · have := cTold_copy (o := 54 + 3 * k) (o1 := 51) hD (fun i j hi hj => by omega) to1
        refine ⟨by rw [gI_k _ _ (by decide)]; exact this.1, fun q hq => ⟨by rw [gI_o _ _ (by omega)]; exact (this.2 q hq).1, (this.2 q hq).2⟩⟩
    · obtain ⟨f1, f2, f3, f4⟩ := hF k hk
      show (if k = i' then 1 else F k) ≤ 1 ∧ _ = nI (if k = i' then 1 else F k) ∧ _ = nI (if k = i' then 1 else F k) ∧ ((if k = i' then 1 else F k) = 1 → _)
      rw [if_neg e]
      have agc := ac (fun a _ => 54 + 3 * k ≤ a ∧ a ≤ 56 + 3 * k) (fun a j q z => by omega)
      have agm := hold k hk e
      refine ⟨f1, by rw [(agc _ _ (by omega)).1]; exact f2, by rw [(agm _ _ (Or.inl ⟨Or.inl rfl, rfl⟩)).1]; exact f3, fun q => ?_⟩
      obtain ⟨D', A', B', g1, g2, g3⟩ := f4 q
      refine ⟨D', A', B', g1, ⟨by rw [(agc _ _ (by omega)).1]; exact g2.1, fun z hz => ⟨by rw [(agc _ _ (by omega)).1]; exact (g2.2 z hz).1, by rw [(agc _ _ (by omega)).2]; exact (g2.2 z hz).2⟩⟩, by rw [(agm _ _ (Or.inl ⟨Or.inr rfl, rfl⟩)).1]; exact g3.1, fun z hz => ⟨by rw [(agm _ _ (Or.inr ⟨Or.inl rfl, by omega, by omega⟩)).1]; exact (g3.2 z hz).1, by rw [(agm _ _ (Or.inr ⟨Or.inr rfl, by omega, by omega⟩)).2]; exact (g3.2 z hz).2⟩⟩
  · intro a j q; unfold kPlC at q; omega
  · intro a j q; unfold kPlM at q; omega
  · intro a j q; unfold kHiC at q; omega
  · intro a j q; unfold kHiM at q; omega
  · rw [gL_sI, cCopy_L (by omega)]
  · unfold mHold; rw [mPut_L, if_neg (by omega), gL_sI, gL_sI]
theorem q_restore : pp_restore RelW := fun hc hm x hR Q hq => by
  obtain ⟨o, s, R, T, tp, to, sl, pl, hi, wd⟩ := id hR
  have sl0 := sl
  obtain ⟨F, hF⟩ := sl0
  have is : ∀ i, i < 3 → x = nI i → is3 x := fun i hi3 ex => by rw [ex]; exact ⟨by rw [n_toInt (by omega)]; omega, by rw [n_toInt (by omega)]; omega⟩
  have same : ∀ i i', i < 3 → i' < 3 → x = nI i → x = nI i' → i' = i := fun i i' h1 h2 ex ex' => by
    rw [ex] at ex'
    exact ((nI_eq (by omega) (by omega)).mp ex').symm
  refine c_restore (fun i hi3 ex fl => hq _ _ (fun Q2 hq2 => m_restore (fun i' hi3' ex' fl' => ?_) (fun i' hi3' ex' fl' => ?_) (fun n => absurd (is i hi3 ex) n))) (fun i hi3 ex fl => hq _ _ (fun Q2 hq2 => m_restore (fun i' hi3' ex' fl' => ?_) (fun i' hi3' ex' fl' => hq2 _ hR) (fun n => absurd (is i hi3 ex) n))) (fun n => hq _ _ (fun Q2 hq2 => m_restore (fun i hi3 ex _ => absurd (is i hi3 ex) n) (fun i hi3 ex _ => absurd (is i hi3 ex) n) (fun _ => hq2 _ hR)))
  · have ei := same i i' hi3 hi3' ex ex'
    subst ei
    refine hq2 _ ?_
    obtain ⟨f1, f2, f3, f4⟩ := hF i' hi3
    have hF1 : F i' = 1 := by
      rw [f2] at fl
      rcases Nat.eq_zero_or_pos (F i') with q | q
      · exact absurd (by rw [q]; rfl) fl
      · omega
    obtain ⟨D, A, B, hD, s1, s2⟩ := f4 hF1
    have ac : ∀ X : Nat → Nat → Prop, (∀ a j, X a j → ¬ (a = 51 ∨ a = 52 ∨ a = 53)) → agI X hc (cCopy 51 (54 + 3 * i') hc) := fun X n => ag_copy n
    have am : ∀ X : Nat → Nat → Prop, (∀ a j, X a j → ¬ (a = 38 ∨ a = 39 ∨ (a = 0 ∧ j = 57))) → agI X hm (mRest i' hm) := fun X n => agI_t (agI_sI (agI_r _) (fun q => n _ _ q (by omega))) (ag_mTake (fun a j q z => n a j q (by omega)) 20)
    refine Rel_build T (ac _ (fun a j q z => q (by unfold cOut; omega))) (fun _ => rfl) (am _ (fun a j q z => q (by unfold mOut; omega))) (rTp_f (ac _ ?_) (am _ ?_) tp) ⟨D, A, B, hD, cTold_copy hD (fun i j hi hj => by omega) s1, mTold_restore hD s2⟩ (rSl_f (ac _ ?_) (am _ ?_) sl) (rPl_f (ac _ ?_) (am _ ?_) pl) (rHi_f (ac _ ?_) (am _ ?_) hi) (rWd_f (fun i => ?_) (fun i => ?_) wd)
    · intro a j q; unfold kTpC at q; omega
    · intro a j q; unfold kTpM at q; omega
    · intro a j q; unfold kSlC at q; omega
    · intro a j q; unfold kSlM at q; omega
    · intro a j q; unfold kPlC at q; omega
    · intro a j q; unfold kPlM at q; omega
    · intro a j q; unfold kHiC at q; omega
    · intro a j q; unfold kHiM at q; omega
    · rw [cCopy_L (by omega)]
    · unfold mRest; rw [mTake_L, if_neg (by omega), gL_sI]
  · have ei := same i i' hi3 hi3' ex ex'
    subst ei
    obtain ⟨f1, f2, f3, f4⟩ := hF i' hi3
    rw [f2] at fl
    rw [f3] at fl'
    exact absurd fl' fl
  · have ei := same i i' hi3 hi3' ex ex'
    subst ei
    obtain ⟨f1, f2, f3, f4⟩ := hF i' hi3
    rw [f2] at fl
    rw [f3] at fl'
    exact absurd fl fl'
