theorem gL_C {wc : Cond} (h5 : wc ∈ wsU) : GoodIn lw_tbl (wc :: wsU) := by
  have hl : ∀ w ∈ wc :: wsU, w ∈ wsU := List.forall_mem_cons.mpr ⟨h5, fun _ h => h⟩
  exact fun w hw => ⟨twU w (hl w hw), good_of_word (goodU w (hl w hw))⟩
theorem P_app {D : va_G} {cl : List vw_C} {w1 w2 : va_W} {H : Heap} (h : va_P D cl (w1 ++ w2) H) : va_P D cl w1 H ∧ va_P D cl w2 H :=
  ⟨fun k q hk => h k q (by rw [List.getElem?_append_left (List.getElem?_eq_some_iff.mp hk).1]; exact hk), fun k q hk => h (w1.length + k) q (by rw [List.getElem?_append_right (by omega), Nat.add_sub_cancel_left]; exact hk)⟩
theorem D_app {A : Nat → Prop} {w1 w2 : va_W} (h : va_D A (w1 ++ w2)) : va_D A w1 ∧ va_D A w2 ∧ ∀ (i j : Nat) (p q : Nat × va_E), w1[i]? = some p → w2[j]? = some q → p.1 ≠ q.1 := by
  have hL : ∀ (k : Nat) (q : Nat × va_E), w1[k]? = some q → (w1 ++ w2)[k]? = some q ∧ k < w1.length := fun k q hk => by
    have h1 := (List.getElem?_eq_some_iff.mp hk).1
    exact ⟨by rw [List.getElem?_append_left h1]; exact hk, h1⟩
  have hR : ∀ (k : Nat) (q : Nat × va_E), w2[k]? = some q → (w1 ++ w2)[w1.length + k]? = some q := fun k q hk => by
    rw [List.getElem?_append_right (by omega), Nat.add_sub_cancel_left]; exact hk
  refine ⟨⟨fun i j p q hi hj e => h.1 i j p q (hL i p hi).1 (hL j q hj).1 e, fun k q hk => h.2 k q (hL k q hk).1⟩, ⟨fun i j p q hi hj e => ?_, fun k q hk => h.2 _ q (hR k q hk)⟩, fun i j p q hi hj e => ?_⟩
  · have := h.1 _ _ p q (hR i p hi) (hR j q hj) e
    omega
  · have := h.1 _ _ p q (hL i p hi).1 (hR j q hj) e
    have := (hL i p hi).2
    omega
/-- what is left for the pure part -/
def mainC : hp → Prop := fun hc => w_X12_init_403 (fun hm => ∀ (L : Nat) (xs : Nat → Int32), L ≤ 3072 → w_law L xs 0 hc hm) hM0
set_option maxRecDepth 100000 in
set_option maxHeartbeats 4000000 in
theorem whole_start0 (hmain : w_X11_begin hInit mainC) {p : Program} {e : Env} {s : State} {m : MethodId} {below : List Frame} {meth : Method} {c : Code} (l : Launch) {b L : Nat} {xs : Nat → Int32} (hL : L ≤ 3072) (C0 : lw_At p s m meth c b L xs) : W p l e room_1 s m #[Value.ref b] below meth c s.heap [] 0 0 (lw_Z below #[Value.ref b] s) (entryFrame m ([Value.ref b] : List Value).toArray 4) := by
  obtain ⟨hx, hb, hr, hml, hown, hts, hX, hbl, hlocks, hgv⟩ := id C0
  obtain ⟨G, hK⟩ := st_K hts
  obtain ⟨adK, adV, hStr⟩ := st_S hts hgv
  have hA : ∀ q : Nat, s.heap.size ≤ q → lA s q := fun _ h => h
  have hS : va_S (lA s) s.heap s.heap [] := va_S.rf
  have hP : va_P G.1 vwCl [] s.heap := fun k q h => by simp at h
  have hD : va_D (lA s) [] := ⟨fun i j p q h => by simp at h, fun k q h => by simp at h⟩
  have hl := lv_entry ([.ref b]) (n := 4) (Nat.le_of_ble_eq_true rfl)
  rw [lg_entry_eq]
  generalize (lg_sl ([.ref b]) ++ List.replicate (4 - (lg_sl ([.ref b])).length) Slot.unset).toArray = ls at hl ⊢
  have hl : lv_has ls 4 [(0, .ref b)] := hl
  refine va_new (ci := 11) (fs := [.null, .int 0, .int 0, .null, .null, .null, .null, .int 0, .int 0, .null, .null]) (C := RX11) (T := TX11) (N := 11) hx hb hts (fun w h => twU w (inU_wsX110 w h)) tyX11 tyX11_ok hown (hts _ (twU _ mw0)) (hts _ tq_in11) (hts _ (twU _ mw2)) hK.1 hP hD hS hA rfl (by decide) (Nat.le_of_ble_eq_true rfl) (Nat.le_of_ble_eq_true rfl) dL_law_0 (fun q1 H hP hD hS => ?_)
  have hP : va_P G.1 vwCl [(q1, .inr (11, [.null, .int 0, .int 0, .null, .null, .null, .null, .int 0, .int 0, .null, .null]))] H := hP
  have hD : va_D (lA s) [(q1, .inr (11, [.null, .int 0, .int 0, .null, .null, .null, .null, .int 0, .int 0, .null, .null]))] := hD
  refine lv_dup hx hb dL_law_3 rfl ?_
  have hFc := va_free (wc := [(q1, .inr (11, [.null, .int 0, .int 0, .null, .null, .null, .null, .int 0, .int 0, .null, .null]))]) hD hS hA [0] rfl
  refine va_callv (va_runI (As := []) (rest := [.ref q1]) ⟨hx, hb, hml, hown, hts⟩ (i_X11_init l G q1 H.size s.heap.size adK adV mainC hmain) (cwI 0 hts (gL_C mw9) rfl rfl rfl (hts _ (twU _ mw2)) (hts _ (twU _ mw7)) (hts _ (twU _ mw8)) rfl (by decide +kernel) ⟨Nat.le_of_ble_eq_true rfl, Nat.le_of_ble_eq_true rfl⟩) ⟨i_blindS, fun U hU hWm => ⟨rfl, by rw [hU], by rw [hU]; exact hP, kK_moved hWm hK, hD.weaken (fun _ _ _ _ => trivial), by rw [hU]; exact kStr_warm hWm (kStr_kept hStr (fun a ha hn => hS.2.1 a ha hn)), hD.2 0 _ rfl, hS.1⟩⟩ rfl rfl hl.1 rfl (lv_room (Nat.le_of_ble_eq_true rfl)) dL_law_4 ⟨Nat.le_of_ble_eq_true rfl, Nat.le_of_ble_eq_true rfl⟩) hS (fun q _ h => hFc q h) hFc (fun u t H1 locs ht hvm hw hB hz1 hk1 hS => ?_)
  obtain ⟨adC, hc⟩ := u
  obtain ⟨hP1, hD1, e1⟩ := hB
  rw [ht] at hP1
  have e1 : adC 0 = q1 := e1
  have hWc : kW SC (G.1, G.2.1, adC) hc (lA s) s H1 locs := ⟨hP1, hD1.weaken (fun k q _ h => hFc q.1 h), hS⟩
  have hmain2 : mainC hc := hw
  subst e1
  clear hP1 hD1 hFc hk1 hz1 hP hD ht hvm hw hS
  refine lv_astore_n (lv' := [(1, .ref (adC 0)), (0, .ref b)]) hx hb dL_law_7 rfl hl (by decide) rfl (fun ls hl => ?_)
  refine va_new (ci := 12) (fs := [.int 0, .null, .int 0, .null, .int 0, .null, .null, .null, .null, .null, .int 0, .int 0, .int 0, .int 0, .int 0, .int 0, .int 0, .int 0, .int 0, .int 0, .int 0, .null, .null, .null, .null, .null, .null, .null, .null, .null, .null, .null, .null, .null, .null, .null, .null, .int 0, .null, .null, .null, .null, .null, .int 0, .null, .null, .null, .int 0, .null, .null, .int 0, .null, .null, .null, .int 0, .int 0, .null, .int 0, .null, .null, .null, .int 0, .int 0, .null, .null, .int 0, .int 0, .null, .null, .null, .null, .null, .null]) (C := RX12) (T := TX12) (N := 73) hx hb hts (fun w h => twU w (inU_wsX120 w h)) tyX12 tyX12_ok hown (hts _ (twU _ mw3)) (hts _ tq_in12) (hts _ (twU _ mw5)) hK.1 hWc.1 hWc.2.1 hWc.2.2 hA rfl (by decide) (Nat.le_of_ble_eq_true rfl) (Nat.le_of_ble_eq_true rfl) dL_law_8 (fun q2 H hP hD hS => ?_)
  obtain ⟨hPa, hPb⟩ := P_app hP
  obtain ⟨hDa, hDb, hDx⟩ := D_app hD
  have hPb : va_P G.1 vwCl [(q2, .inr (12, [.int 0, .null, .int 0, .null, .int 0, .null, .null, .null, .null, .null, .int 0, .int 0, .int 0, .int 0, .int 0, .int 0, .int 0, .int 0, .int 0, .int 0, .int 0, .null, .null, .null, .null, .null, .null, .null, .null, .null, .null, .null, .null, .null, .null, .null, .null, .int 0, .null, .null, .null, .null, .null, .int 0, .null, .null, .null, .int 0, .null, .null, .int 0, .null, .null, .null, .int 0, .int 0, .null, .int 0, .null, .null, .null, .int 0, .int 0, .null, .null, .int 0, .int 0, .null, .null, .null, .null, .null, .null]))] H := hPb
  have hDb : va_D (lA s) [(q2, .inr (12, [.int 0, .null, .int 0, .null, .int 0, .null, .null, .null, .null, .null, .int 0, .int 0, .int 0, .int 0, .int 0, .int 0, .int 0, .int 0, .int 0, .int 0, .int 0, .null, .null, .null, .null, .null, .null, .null, .null, .null, .null, .null, .null, .null, .null, .null, .null, .int 0, .null, .null, .null, .null, .null, .int 0, .null, .null, .null, .int 0, .null, .null, .int 0, .null, .null, .null, .int 0, .int 0, .null, .int 0, .null, .null, .null, .int 0, .int 0, .null, .null, .int 0, .int 0, .null, .null, .null, .null, .null, .null]))] := hDb
  refine lv_dup hx hb dL_law_11 rfl ?_
  have hFc := va_free (wc := [(q2, .inr (12, [.int 0, .null, .int 0, .null, .int 0, .null, .null, .null, .null, .null, .int 0, .int 0, .int 0, .int 0, .int 0, .int 0, .int 0, .int 0, .int 0, .int 0, .int 0, .null, .null, .null, .null, .null, .null, .null, .null, .null, .null, .null, .null, .null, .null, .null, .null, .int 0, .null, .null, .null, .null, .null, .int 0, .null, .null, .null, .int 0, .null, .null, .int 0, .null, .null, .null, .int 0, .int 0, .null, .int 0, .null, .null, .null, .int 0, .int 0, .null, .null, .int 0, .int 0, .null, .null, .null, .null, .null, .null]))]) hDb hS hA [0] rfl
  refine va_callv (va_runI (As := []) (rest := [.ref q2]) ⟨hx, hb, hml, hown, hts⟩ (i_X12_init l G q2 H.size (fun hm => ∀ (L : Nat) (xs : Nat → Int32), L ≤ 3072 → w_law L xs 0 hc hm) hmain2) (cwI 0 hts (gL_C mw261) rfl rfl rfl (hts _ (twU _ mw5)) (hts _ (twU _ mw259)) (hts _ (twU _ mw260)) rfl (by decide +kernel) ⟨Nat.le_of_ble_eq_true rfl, Nat.le_of_ble_eq_true rfl⟩) ⟨i_blind, fun U hU hWm => ⟨rfl, by rw [hU], by rw [hU]; exact hPb, kK_moved hWm hK, hDb.weaken (fun _ _ _ _ => trivial)⟩⟩ rfl rfl hl.1 rfl (lv_room (Nat.le_of_ble_eq_true rfl)) dL_law_12 ⟨Nat.le_of_ble_eq_true rfl, Nat.le_of_ble_eq_true rfl⟩) hS (fun q _ h => hFc q h) hFc (fun u t H2 locs ht hvm hw hB hz1 hk1 hS => ?_)
  obtain ⟨adM, hm⟩ := u
  obtain ⟨hP1, hD1, e1⟩ := hB
  rw [ht] at hP1
  have e1 : adM 0 = q2 := e1
  have hout : ∀ (k : Nat) (q : Nat × va_E), (lk SC (G.1, G.2.1, adC) hc)[k]? = some q → q.1 < H.size ∧ ¬ va_A [(q2, .inr (12, [.int 0, .null, .int 0, .null, .int 0, .null, .null, .null, .null, .null, .int 0, .int 0, .int 0, .int 0, .int 0, .int 0, .int 0, .int 0, .int 0, .int 0, .int 0, .null, .null, .null, .null, .null, .null, .null, .null, .null, .null, .null, .null, .null, .null, .null, .null, .int 0, .null, .null, .null, .null, .null, .int 0, .null, .null, .null, .int 0, .null, .null, .int 0, .null, .null, .null, .int 0, .int 0, .null, .int 0, .null, .null, .null, .int 0, .int 0, .null, .null, .int 0, .int 0, .null, .null, .null, .null, .null, .null]))] H.size q.1 := by
    intro k q hk
    have hlt := (hPa k q hk).lt
    refine ⟨hlt, fun h => ?_⟩
    rcases h with ⟨j, e9, h⟩ | h
    · exact hDx k j q _ hk h rfl
    · omega
  have hWc : kW SC (G.1, G.2.1, adC) hc (lA s) s H2 locs := ⟨hPa.kept (fun k q hq => hk1 q.1 (hout k q hq).1 (hout k q hq).2), hDa, hS⟩
  have hWm : kW SM (G.1, G.2.1, adM) hm (lA s) s H2 locs := ⟨hP1, hD1.weaken (fun k q _ h => hFc q.1 h), hS⟩
  have hdis : ∀ q, aS SC (G.1, G.2.1, adC) q → aS SM (G.1, G.2.1, adM) q → False := by
    rintro q ⟨i, hi, rfl⟩ ⟨j, hj, hij⟩
    have h1 := (hout i _ (lk_get hi rfl)).2
    have h2 := hD1.2 j _ (lk_get hj rfl)
    exact h1 (by show va_A _ _ (adC i); rw [show adC i = adM j from hij]; exact h2)
  have hq : ∀ (L : Nat) (xs : Nat → Int32), L ≤ 3072 → w_law L xs 0 hc hm := hw
  clear hw
  rw [← e1]
  clear e1 hP1 hD1
  refine lv_astore_n (lv' := [(2, .ref (adM 0)), (1, .ref (adC 0)), (0, .ref b)]) hx hb dL_law_15 rfl hl (by decide) rfl (fun ls hl => ?_)
  refine lv_iconst (v := 0) hx hb dL_law_16 (by decide) ?_
  refine lv_istore_n (lv' := [(3, .int 0), (2, .ref (adM 0)), (1, .ref (adC 0)), (0, .ref b)]) hx hb dL_law_17 rfl hl (by decide) rfl (fun ls hl => ?_)
  refine W.widen (k := 600000) (n := 7302250) (Nat.le_of_ble_eq_true rfl) (Nat.le_of_ble_eq_true rfl) ?_
  exact k_law (Gc := (G.1, G.2.1, adC)) (Gm := (G.1, G.2.1, adM)) hL C0 ⟨hK, hK⟩ hdis hWc hWm (lv_sub hl [3, 2, 1, 0] rfl) (hq L xs hL)
