/-! ===== the law s case of pavedShare ===== -/
set_option maxHeartbeats 4000000 in
theorem k_pavedShare {p : Program} {l : Launch} {e : Env} {s : State} {m : MethodId} {below : List Frame} {meth : Method} {c : Code} {b L : Nat} {xs : Nat → Int32} {Q : State → Prop} {D : va_G} {t : Nat → ClassId} {x0 o : Nat} {A : Nat → Nat} (C0 : lw_At p s m meth c b L xs) (hC : CTX s.heap.size D t s s.heap) (hN : NC s) (hl9 : l.stackTraces = false) {i : Nat} (hi : i + 4 ≤ L) (hL : L ≤ 2048) {H : Heap} {locs : List Loc} {ls : Array Slot} (hI : LINV D t s b x0 o A (nI i) ls H locs) {cells slots : Nat} (hc1 : cells + 6 ≤ 601024) (hc2 : slots + 81 ≤ 7293034) (kk : ∀ ls H locs, LINV D t s b x0 o A (nI i) ls H locs → W p l e room_1 s m #[Value.ref b] below meth c H locs (cells + 6) (slots + 81) Q (F0 m 1560 ls [])) : W p l e room_1 s m #[Value.ref b] below meth c H locs cells slots Q (F0 m 1505 ls []) := by
  obtain ⟨hx, hb, hr, hml, hown, hts0, hX, hbl, hlocks, hgv⟩ := C0
  have hts : ∀ w ∈ LA, w.before _ s = true := fun w hw => hts0 w (LA_tbl w hw)
  obtain ⟨f, w, μ, hl, hP, hD, hS, hw⟩ := hI
  have hK := hC.1
  have hZ : ∀ q, OA [] s.heap.size q → s.heap.size ≤ q := fun q h => h.elim (fun z => nomatch z) id
  refine lv_aload_n hx hb dL_law_1505 rfl (lv_at hl 2 rfl) ?_
  obtain ⟨v, m', hM, hX2⟩ := od_pavedShare l s.heap.size D t x0 hw
  have hSz : s.heap.size ≤ H.size := hS.1
  have hPD := pd_perm (pmD (OUT t o f) w (MW A t μ)) hP hD
  have hq := pd_sub (List.sublist_append_right (MW A t μ ++ [OUT t o f]) w) hPD.1 hPD.2
  have hsr := sz_in (L := w.map Prod.fst) hq.2 rfl hSz
  obtain ⟨fs, h0⟩ := XR_h0 hw
  refine call_Q (va_runV (As := []) (rest := []) ⟨hx, hb, hml, hown, hts⟩ (hX2 H.size) (kV hts qw412 qw413 qw414 qw1 qw415 ok_X4_pavedShare ⟨Nat.le_of_ble_eq_true rfl, Nat.le_of_ble_eq_true rfl⟩) ⟨PM.blind, va_recv hK hq.1 (ci := 5) (q0 := 0) rfl h0, fun U hU hW => ⟨rfl, by rw [hU]; exact (hC.at hS hZ).warm hW, by rw [hU], by rw [hU]; exact hq.1, ⟨hq.2.1, fun _ _ h9 => Or.inl (in_map rfl h9)⟩, fun q hq => hZ q (hsr q hq)⟩⟩ rfl rfl hl.1 rfl (lv_room (Nat.le_of_ble_eq_true rfl)) dL_law_1506 ⟨by show cells + 0 ≤ 601024; omega, by show slots + 0 ≤ 7293034; omega⟩) hS hsr (fun w1 H1 locs1 hR1 hP1 hD1 hS _ hk1 => ?_)
  obtain ⟨hP, hD⟩ := frm (wr := MW A t μ ++ [OUT t o f]) (ws := w) (ws1 := w1) rfl hPD.1 hPD.2 hsr hk1 hP1 hD1
  refine W.widen (k := cells + 6) (n := slots + 81) (by show cells + 0 ≤ _; omega) (by show slots + 0 ≤ _; omega) ?_
  refine lv_dstore (lv' := (5, .double v) :: [(4, .int (nI i)), (0, .ref b), (1, .ref x0), (2, .ref (A 0)), (3, .ref o)]) hx hb dL_law_1509 hl (by decide) rfl (fun ls hl => ?_)
  refine lv_aload_n hx hb dL_law_1511 rfl (lv_at hl 4 rfl) ?_
  have hSz : s.heap.size ≤ H1.size := hS.1
  obtain ⟨hP, hD⟩ := pd_perm (pmD (OUT t o f) w1 (MW A t μ)).symm hP hD
  have hq := pd_sub (List.sublist_append_right (OUT t o f :: w1) (MW A t μ)) hP hD
  have hsr := sz_in (L := ML A) hq.2 rfl hSz
  refine call_M (va_runV (As := []) (rest := []) ⟨hx, hb, hml, hown, hts⟩ (hM A H1.size) (kV hts qw1232 qw1233 qw1234 qw9 qw1235 ok_X5_pavedShare ⟨Nat.le_of_ble_eq_true rfl, Nat.le_of_ble_eq_true rfl⟩) ⟨PM.blind, va_recv hK hq.1 (ci := 6) (q0 := 0) rfl rfl, fun U hU hW => ⟨rfl, by rw [hU]; exact (hC.at hS hZ).warm hW, by rw [hU], by rw [hU]; exact hq.1, ⟨hq.2.1, fun _ _ h9 => Or.inl (in_map (L := ML A) rfl h9)⟩, fun q hq => hZ q (hsr q hq)⟩⟩ rfl rfl hl.1 rfl (lv_room (Nat.le_of_ble_eq_true rfl)) dL_law_1512 ⟨by show cells + 6 + 0 ≤ 601024; omega, by show slots + 81 + 0 ≤ 7293034; omega⟩) hS hsr (fun H locs hP1 hD1 hS _ hk1 => ?_)
  obtain ⟨hP, hD⟩ := frm (L := ML A) (wr := OUT t o f :: w1) (ws := MW A t μ) (ws1 := MW A t m') rfl hP hD hsr hk1 hP1 hD1
  refine W.widen (k := cells + 6) (n := slots + 81) (Nat.le_refl _) (Nat.le_refl _) ?_
  refine lv_dstore (lv' := (7, .double v) :: (5, .double v) :: [(4, .int (nI i)), (0, .ref b), (1, .ref x0), (2, .ref (A 0)), (3, .ref o)]) hx hb dL_law_1515 hl (by decide) rfl (fun ls hl => ?_)
  refine lv_dload hx hb dL_law_1517 (lv_at hl 1 rfl) ?_
  refine lv_dload hx hb dL_law_1519 (lv_at hl 0 rfl) ?_
  refine lv_dcmp hx hb dL_law_1521 ?_
  refine lv_if_eq (tgt := 1543) hx hb dL_law_1522 (by decide) (fun hc => (lv_goto (tgt := 1560) hx hb dL_law_1543 (by decide) (kk ls H locs ⟨f, w1, m', lv_sub hl [2, 3, 4, 5, 6] rfl, hP, hD, hS, hR1⟩))) (fun hc => ?_)
  refine lv_dload hx hb dL_law_1525 (lv_at hl 1 rfl) ?_
  refine lv_dload hx hb dL_law_1527 (lv_at hl 1 rfl) ?_
  refine lv_dcmp hx hb dL_law_1529 ?_
  refine lv_if_eq (tgt := 1541) hx hb dL_law_1530 (by decide) (fun h2 => absurd h2 hc) (fun _ => ?_)
  refine lv_dload hx hb dL_law_1533 (lv_at hl 0 rfl) ?_
  refine lv_dload hx hb dL_law_1535 (lv_at hl 0 rfl) ?_
  refine lv_dcmp hx hb dL_law_1537 ?_
  exact lv_if_ne (tgt := 1543) hx hb dL_law_1538 (by decide) (fun _ => (lv_goto (tgt := 1560) hx hb dL_law_1543 (by decide) (kk ls H locs ⟨f, w1, m', lv_sub hl [2, 3, 4, 5, 6] rfl, hP, hD, hS, hR1⟩))) (fun h2 => absurd h2 hc)
