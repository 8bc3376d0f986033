/-! ===== the law's case of flip ===== -/
set_option maxHeartbeats 4000000 in
theorem k_flip0 {p : Program} {l : Launch} {e : Env} {s : State} {m : MethodId} {below : List Frame} {meth : Method} {c : Code} {b L : Nat} {xs : Nat → Int32} {Q : State → Prop} {D : va_G} {t : Nat → ClassId} {x0 o : Nat} {A : Nat → Nat} (C0 : lw_At p s m meth c b L xs) (hC : CTX s.heap.size D t s s.heap) (hN : NC s) (hl9 : l.stackTraces = false) {i : Nat} (hi : i + 4 ≤ L) (hL : L ≤ 2048) {H : Heap} {locs : List Loc} {ls : Array Slot} (hI : LINV D t s b x0 o A (nI i) ls H locs) {cells slots : Nat} (hc1 : cells + 6 ≤ 601024) (hc2 : slots + 81 ≤ 7293034) (kk : ∀ ls H locs, LINV D t s b x0 o A (nI i) ls H locs → W p l e room_1 s m #[Value.ref b] below meth c H locs (cells + 6) (slots + 81) Q (F0 m 1560 ls [])) (hz : xs (nI (i + 3)).toNatClampNeg = 0) : W p l e room_1 s m #[Value.ref b] below meth c H locs cells slots Q (F0 m 512 ls []) := by
  obtain ⟨hx, hb, hr, hml, hown, hts0, hX, hbl, hlocks, hgv⟩ := C0
  have hts : ∀ w ∈ LA, w.before _ s = true := fun w hw => hts0 w (LA_tbl w hw)
  obtain ⟨f, w, μ, hl, hP, hD, hS, hw⟩ := hI
  have hK := hC.1
  have hZ : ∀ q, OA [] s.heap.size q → s.heap.size ≤ q := fun q h => h.elim (fun z => nomatch z) id
  have hbA : ¬ OA [] s.heap.size b := fun z => absurd hbl (Nat.not_lt.mpr (hZ b z))
  refine lv_aload_n hx hb dL_law_512 rfl (lv_at hl 2 rfl) ?_
  refine lv_aload_n hx hb dL_law_513 rfl (lv_at hl 1 rfl) ?_
  refine lv_iload hx hb dL_law_514 (lv_at hl 0 rfl) ?_
  refine lv_iconst (v := nI 1) hx hb dL_law_516 (by decide) ?_
  refine lv_iadd hx hb dL_law_517 ?_
  refine topI (nI_add i 1).symm ?_
  refine va_sld hx hb hX hbl hbA hS (vin_at (k := 1) (by omega) hL) dL_law_518 ?_
  refine lv_aload_n hx hb dL_law_519 rfl (lv_at hl 1 rfl) ?_
  refine lv_iload hx hb dL_law_520 (lv_at hl 0 rfl) ?_
  refine lv_iconst (v := nI 2) hx hb dL_law_522 (by decide) ?_
  refine lv_iadd hx hb dL_law_523 ?_
  refine topI (nI_add i 2).symm ?_
  refine va_sld hx hb hX hbl hbA hS (vin_at (k := 2) (by omega) hL) dL_law_524 ?_
  refine lv_aload_n hx hb dL_law_525 rfl (lv_at hl 1 rfl) ?_
  refine lv_iload hx hb dL_law_526 (lv_at hl 0 rfl) ?_
  refine lv_iconst (v := nI 3) hx hb dL_law_528 (by decide) ?_
  refine lv_iadd hx hb dL_law_529 ?_
  refine topI (nI_add i 3).symm ?_
  refine va_sld hx hb hX hbl hbA hS (vin_at (k := 3) (by omega) hL) dL_law_530 ?_
  refine lv_if_eq (tgt := 538) hx hb dL_law_531 (by decide) (fun hc => ?_) (fun hc => absurd hz hc)
  refine lv_iconst (v := nI (bn false)) hx hb dL_law_538 (by decide) ?_
  refine lv_aload_n hx hb dL_law_539 rfl (lv_at hl 4 rfl) ?_
  obtain ⟨v, v', th, m', e1, e2, e3, hM, hX2⟩ := op_flip l hl9 s.heap.size D t x0 hw (xs (nI (i + 1)).toNatClampNeg) (xs (nI (i + 2)).toNatClampNeg) false
  have hSz : s.heap.size ≤ H.size := hS.1
  have hPD := pd_perm (List.perm_append_comm (l₁ := OUT t o f :: w) (l₂ := MW A t μ)) hP hD
  have hq := pd_sub (List.sublist_append_right (MW A t μ) (OUT t o f :: w)) hPD.1 hPD.2
  have hsr := sz_in (L := o :: w.map Prod.fst) hq.2 rfl hSz
  refine call_Q (vx_runSW (As := [.ref x0, .int (xs (nI (i + 1)).toNatClampNeg), .int (xs (nI (i + 2)).toNatClampNeg), .int (nI (bn false)), .ref o]) (rest := []) ⟨hx, hb, hml, hown, hts⟩ (h_flip l s.heap.size D t x0 o f (xs (nI (i + 1)).toNatClampNeg) (xs (nI (i + 2)).toNatClampNeg) (nI (bn false)) (XR_h0 hw) e2 hX2 H.size) (kH hts qw802 qw803 qw0 qw804 okL_flip ⟨Nat.le_of_ble_eq_true rfl, Nat.le_of_ble_eq_true rfl⟩) ⟨PMH.blind, fun U hU hW => ⟨rfl, ⟨by rw [hU]; exact (hC.at hS hZ).warm hW, hN.moved hW.alike⟩, by rw [hU], by rw [hU]; exact hq.1, ⟨hq.2.1, fun _ _ h9 => Or.inl (in_map (L := o :: w.map Prod.fst) rfl h9)⟩, fun q hq => hZ q (hsr q hq)⟩⟩ rfl rfl hl.1 rfl (lv_room (Nat.le_of_ble_eq_true rfl)) dL_law_540 ⟨by show cells + 5 ≤ 601024; omega, by show slots + 70 ≤ 7293034; omega⟩) hS hsr (fun b9 H1 locs1 hR1 hP1 hD1 hS _ hk1 => ?_)
  obtain ⟨hP, hD⟩ := frm (wr := MW A t μ) (ws := OUT t o f :: w) (ws1 := OUT t o b9.1 :: b9.2) rfl hPD.1 hPD.2 hsr hk1 hP1 hD1
  refine W.widen (k := cells + 6) (n := slots + 81) (by show cells + 5 ≤ _; omega) (by show slots + 70 ≤ _; omega) ?_
  refine lv_istore (lv' := (5, .int (nI th)) :: [(4, .int (nI i)), (0, .ref b), (1, .ref x0), (2, .ref (A 0)), (3, .ref o)]) hx hb dL_law_543 hl (by decide) rfl (fun ls hl => ?_)
  refine lv_aload_n hx hb dL_law_545 rfl (lv_at hl 4 rfl) ?_
  refine lv_aload_n hx hb dL_law_546 rfl (lv_at hl 2 rfl) ?_
  refine lv_iload hx hb dL_law_547 (lv_at hl 1 rfl) ?_
  refine lv_iconst (v := nI 1) hx hb dL_law_549 (by decide) ?_
  refine lv_iadd hx hb dL_law_550 ?_
  refine topI (nI_add i 1).symm ?_
  refine va_sld hx hb hX hbl hbA hS (vin_at (k := 1) (by omega) hL) dL_law_551 ?_
  refine lv_aload_n hx hb dL_law_552 rfl (lv_at hl 2 rfl) ?_
  refine lv_iload hx hb dL_law_553 (lv_at hl 1 rfl) ?_
  refine lv_iconst (v := nI 2) hx hb dL_law_555 (by decide) ?_
  refine lv_iadd hx hb dL_law_556 ?_
  refine topI (nI_add i 2).symm ?_
  refine va_sld hx hb hX hbl hbA hS (vin_at (k := 2) (by omega) hL) dL_law_557 ?_
  refine lv_aload_n hx hb dL_law_558 rfl (lv_at hl 2 rfl) ?_
  refine lv_iload hx hb dL_law_559 (lv_at hl 1 rfl) ?_
  refine lv_iconst (v := nI 3) hx hb dL_law_561 (by decide) ?_
  refine lv_iadd hx hb dL_law_562 ?_
  refine topI (nI_add i 3).symm ?_
  refine va_sld hx hb hX hbl hbA hS (vin_at (k := 3) (by omega) hL) dL_law_563 ?_
  refine lv_if_eq (tgt := 571) hx hb dL_law_564 (by decide) (fun hc => ?_) (fun hc => absurd hz hc)
  refine lv_iconst (v := nI (bn false)) hx hb dL_law_571 (by decide) ?_
  have hSz : s.heap.size ≤ H1.size := hS.1
  have hPD := pd_perm (List.perm_append_comm (l₁ := MW A t μ) (l₂ := OUT t o b9.1 :: b9.2)) hP hD
  have hq := pd_sub (List.sublist_append_right (OUT t o b9.1 :: b9.2) (MW A t μ)) hPD.1 hPD.2
  have hsr := sz_in (L := ML A) hq.2 rfl hSz
  refine call_M (va_runV (As := [.int (xs (nI (i + 1)).toNatClampNeg), .int (xs (nI (i + 2)).toNatClampNeg), .int (nI (bn false))]) (rest := []) ⟨hx, hb, hml, hown, hts⟩ (hM A H1.size) (kV hts qw1062 qw1063 qw1064 qw9 qw1065 ok_X5_flip ⟨Nat.le_of_ble_eq_true rfl, Nat.le_of_ble_eq_true rfl⟩) ⟨PM.blind, va_recv hK hq.1 (ci := 6) (q0 := 0) rfl rfl, fun U hU hW => ⟨rfl, by rw [hU]; exact (hC.at hS hZ).warm hW, by rw [hU], by rw [hU]; exact hq.1, ⟨hq.2.1, fun _ _ h9 => Or.inl (in_map (L := ML A) rfl h9)⟩, fun q hq => hZ q (hsr q hq)⟩⟩ rfl rfl hl.1 rfl (lv_room (Nat.le_of_ble_eq_true rfl)) dL_law_572 ⟨by show cells + 6 + 0 ≤ 601024; omega, by show slots + 81 + 0 ≤ 7293034; omega⟩) hS hsr (fun H locs hP1 hD1 hS _ hk1 => ?_)
  obtain ⟨hP, hD⟩ := frm (L := ML A) (wr := OUT t o b9.1 :: b9.2) (ws := MW A t μ) (ws1 := MW A t m') rfl hPD.1 hPD.2 hsr hk1 hP1 hD1
  refine W.widen (k := cells + 6) (n := slots + 81) (Nat.le_refl _) (Nat.le_refl _) ?_
  refine lv_istore (lv' := (6, .int v') :: (5, .int (nI th)) :: [(4, .int (nI i)), (0, .ref b), (1, .ref x0), (2, .ref (A 0)), (3, .ref o)]) hx hb dL_law_575 hl (by decide) rfl (fun ls hl => ?_)
  refine lv_aload_n hx hb dL_law_577 rfl (lv_at hl 5 rfl) ?_
  have hq := pd_sub (List.sublist_append_right (OUT t o b9.1 :: b9.2) (MW A t m')) hP hD
  refine call_R (va_runV (As := []) (rest := []) ⟨hx, hb, hml, hown, hts⟩ (c_X5_thrown l s.heap.size D t A m' (m_thrown m') rfl) (kV hts qw1000 qw1001 qw1002 qw9 qw1003 ok_X5_thrown ⟨Nat.le_of_ble_eq_true rfl, Nat.le_of_ble_eq_true rfl⟩) ⟨PR.blind, va_recv hK hq.1 (ci := 6) (q0 := 0) rfl rfl, fun U hU hW => ⟨rfl, by rw [hU]; exact (hC.at hS hZ).warm hW, by rw [hU]; exact hq.1⟩⟩ rfl rfl hl.1 rfl (lv_room (Nat.le_of_ble_eq_true rfl)) dL_law_578 ⟨by show cells + 6 + 0 ≤ 601024; omega, by show slots + 81 + 0 ≤ 7293034; omega⟩) ?_
  refine lv_iload hx hb dL_law_581 (lv_at hl 1 rfl) ?_
  refine lv_icmp_eq (tgt := 588) hx hb dL_law_583 (by decide) (fun hc => ?_) (fun hc => absurd e1 hc)
  refine lv_iload hx hb dL_law_588 (lv_at hl 1 rfl) ?_
  refine lv_if_ne (tgt := 605) hx hb dL_law_590 (by decide) (fun hc => (lv_goto (tgt := 1560) hx hb dL_law_605 (by decide) (kk ls H locs ⟨b9.1, b9.2, m', lv_sub hl [2, 3, 4, 5, 6] rfl, hP, hD, hS, hR1.2⟩))) (fun hc => ?_)
  have hth : th = 0 := by
    have : nI th = nI 0 := hc
    rwa [nI_eq (by omega) (by decide)] at this
  refine lv_aload_n hx hb dL_law_593 rfl (lv_at hl 6 rfl) ?_
  refine lv_iconst (v := nI 0) hx hb dL_law_594 (by decide) ?_
  refine va_lald hx hb hK hP 0 6 rfl rfl vin01 dL_law_595 ?_
  refine lv_iload hx hb dL_law_596 (lv_at hl 0 rfl) ?_
  refine lv_i2l hx hb dL_law_598 rfl ?_
  refine W.lcmp hx hb dL_law_599 ?_
  refine lv_if_eq (tgt := 605) hx hb dL_law_600 (by decide) (fun hc => (lv_goto (tgt := 1560) hx hb dL_law_605 (by decide) (kk ls H locs ⟨b9.1, b9.2, m', lv_sub hl [2, 3, 4, 5, 6] rfl, hP, hD, hS, hR1.2⟩))) (fun hc => absurd ?_ hc)
  have h0 : b9.1 (nI 0).toNatClampNeg = v'.toInt64 := by rw [e3 hth]; exact hR1.1 hth
  show lg_cmp (b9.1 (nI 0).toNatClampNeg) v'.toInt64 = 0
  rw [h0]
  exact (lg_cmp_eq _ _).mpr rfl
set_option maxHeartbeats 4000000 in
theorem k_flip1 {p : Program} {l : Launch} {e : Env} {s : State} {m : MethodId} {below : List Frame} {meth : Method} {c : Code} {b L : Nat} {xs : Nat → Int32} {Q : State → Prop} {D : va_G} {t : Nat → ClassId} {x0 o : Nat} {A : Nat → Nat} (C0 : lw_At p s m meth c b L xs) (hC : CTX s.heap.size D t s s.heap) (hN : NC s) (hl9 : l.stackTraces = false) {i : Nat} (hi : i + 4 ≤ L) (hL : L ≤ 2048) {H : Heap} {locs : List Loc} {ls : Array Slot} (hI : LINV D t s b x0 o A (nI i) ls H locs) {cells slots : Nat} (hc1 : cells + 6 ≤ 601024) (hc2 : slots + 81 ≤ 7293034) (kk : ∀ ls H locs, LINV D t s b x0 o A (nI i) ls H locs → W p l e room_1 s m #[Value.ref b] below meth c H locs (cells + 6) (slots + 81) Q (F0 m 1560 ls [])) (hz : ¬ xs (nI (i + 3)).toNatClampNeg = 0) : W p l e room_1 s m #[Value.ref b] below meth c H locs cells slots Q (F0 m 512 ls []) := by
  obtain ⟨hx, hb, hr, hml, hown, hts0, hX, hbl, hlocks, hgv⟩ := C0
  have hts : ∀ w ∈ LA, w.before _ s = true := fun w hw => hts0 w (LA_tbl w hw)
  obtain ⟨f, w, μ, hl, hP, hD, hS, hw⟩ := hI
  have hK := hC.1
  have hZ : ∀ q, OA [] s.heap.size q → s.heap.size ≤ q := fun q h => h.elim (fun z => nomatch z) id
  have hbA : ¬ OA [] s.heap.size b := fun z => absurd hbl (Nat.not_lt.mpr (hZ b z))
  refine lv_aload_n hx hb dL_law_512 rfl (lv_at hl 2 rfl) ?_
  refine lv_aload_n hx hb dL_law_513 rfl (lv_at hl 1 rfl) ?_
  refine lv_iload hx hb dL_law_514 (lv_at hl 0 rfl) ?_
  refine lv_iconst (v := nI 1) hx hb dL_law_516 (by decide) ?_
  refine lv_iadd hx hb dL_law_517 ?_
  refine topI (nI_add i 1).symm ?_
  refine va_sld hx hb hX hbl hbA hS (vin_at (k := 1) (by omega) hL) dL_law_518 ?_
  refine lv_aload_n hx hb dL_law_519 rfl (lv_at hl 1 rfl) ?_
  refine lv_iload hx hb dL_law_520 (lv_at hl 0 rfl) ?_
  refine lv_iconst (v := nI 2) hx hb dL_law_522 (by decide) ?_
  refine lv_iadd hx hb dL_law_523 ?_
  refine topI (nI_add i 2).symm ?_
  refine va_sld hx hb hX hbl hbA hS (vin_at (k := 2) (by omega) hL) dL_law_524 ?_
  refine lv_aload_n hx hb dL_law_525 rfl (lv_at hl 1 rfl) ?_
  refine lv_iload hx hb dL_law_526 (lv_at hl 0 rfl) ?_
  refine lv_iconst (v := nI 3) hx hb dL_law_528 (by decide) ?_
  refine lv_iadd hx hb dL_law_529 ?_
  refine topI (nI_add i 3).symm ?_
  refine va_sld hx hb hX hbl hbA hS (vin_at (k := 3) (by omega) hL) dL_law_530 ?_
  refine lv_if_eq (tgt := 538) hx hb dL_law_531 (by decide) (fun hc => absurd hc hz) (fun hc => ?_)
  refine lv_iconst (v := nI (bn true)) hx hb dL_law_534 (by decide) ?_
  refine lv_goto (tgt := 539) hx hb dL_law_535 (by decide) ?_
  refine lv_aload_n hx hb dL_law_539 rfl (lv_at hl 4 rfl) ?_
  obtain ⟨v, v', th, m', e1, e2, e3, hM, hX2⟩ := op_flip l hl9 s.heap.size D t x0 hw (xs (nI (i + 1)).toNatClampNeg) (xs (nI (i + 2)).toNatClampNeg) true
  have hSz : s.heap.size ≤ H.size := hS.1
  have hPD := pd_perm (List.perm_append_comm (l₁ := OUT t o f :: w) (l₂ := MW A t μ)) hP hD
  have hq := pd_sub (List.sublist_append_right (MW A t μ) (OUT t o f :: w)) hPD.1 hPD.2
  have hsr := sz_in (L := o :: w.map Prod.fst) hq.2 rfl hSz
  refine call_Q (vx_runSW (As := [.ref x0, .int (xs (nI (i + 1)).toNatClampNeg), .int (xs (nI (i + 2)).toNatClampNeg), .int (nI (bn true)), .ref o]) (rest := []) ⟨hx, hb, hml, hown, hts⟩ (h_flip l s.heap.size D t x0 o f (xs (nI (i + 1)).toNatClampNeg) (xs (nI (i + 2)).toNatClampNeg) (nI (bn true)) (XR_h0 hw) e2 hX2 H.size) (kH hts qw802 qw803 qw0 qw804 okL_flip ⟨Nat.le_of_ble_eq_true rfl, Nat.le_of_ble_eq_true rfl⟩) ⟨PMH.blind, fun U hU hW => ⟨rfl, ⟨by rw [hU]; exact (hC.at hS hZ).warm hW, hN.moved hW.alike⟩, by rw [hU], by rw [hU]; exact hq.1, ⟨hq.2.1, fun _ _ h9 => Or.inl (in_map (L := o :: w.map Prod.fst) rfl h9)⟩, fun q hq => hZ q (hsr q hq)⟩⟩ rfl rfl hl.1 rfl (lv_room (Nat.le_of_ble_eq_true rfl)) dL_law_540 ⟨by show cells + 5 ≤ 601024; omega, by show slots + 70 ≤ 7293034; omega⟩) hS hsr (fun b9 H1 locs1 hR1 hP1 hD1 hS _ hk1 => ?_)
  obtain ⟨hP, hD⟩ := frm (wr := MW A t μ) (ws := OUT t o f :: w) (ws1 := OUT t o b9.1 :: b9.2) rfl hPD.1 hPD.2 hsr hk1 hP1 hD1
  refine W.widen (k := cells + 6) (n := slots + 81) (by show cells + 5 ≤ _; omega) (by show slots + 70 ≤ _; omega) ?_
  refine lv_istore (lv' := (5, .int (nI th)) :: [(4, .int (nI i)), (0, .ref b), (1, .ref x0), (2, .ref (A 0)), (3, .ref o)]) hx hb dL_law_543 hl (by decide) rfl (fun ls hl => ?_)
  refine lv_aload_n hx hb dL_law_545 rfl (lv_at hl 4 rfl) ?_
  refine lv_aload_n hx hb dL_law_546 rfl (lv_at hl 2 rfl) ?_
  refine lv_iload hx hb dL_law_547 (lv_at hl 1 rfl) ?_
  refine lv_iconst (v := nI 1) hx hb dL_law_549 (by decide) ?_
  refine lv_iadd hx hb dL_law_550 ?_
  refine topI (nI_add i 1).symm ?_
  refine va_sld hx hb hX hbl hbA hS (vin_at (k := 1) (by omega) hL) dL_law_551 ?_
  refine lv_aload_n hx hb dL_law_552 rfl (lv_at hl 2 rfl) ?_
  refine lv_iload hx hb dL_law_553 (lv_at hl 1 rfl) ?_
  refine lv_iconst (v := nI 2) hx hb dL_law_555 (by decide) ?_
  refine lv_iadd hx hb dL_law_556 ?_
  refine topI (nI_add i 2).symm ?_
  refine va_sld hx hb hX hbl hbA hS (vin_at (k := 2) (by omega) hL) dL_law_557 ?_
  refine lv_aload_n hx hb dL_law_558 rfl (lv_at hl 2 rfl) ?_
  refine lv_iload hx hb dL_law_559 (lv_at hl 1 rfl) ?_
  refine lv_iconst (v := nI 3) hx hb dL_law_561 (by decide) ?_
  refine lv_iadd hx hb dL_law_562 ?_
  refine topI (nI_add i 3).symm ?_
  refine va_sld hx hb hX hbl hbA hS (vin_at (k := 3) (by omega) hL) dL_law_563 ?_
  refine lv_if_eq (tgt := 571) hx hb dL_law_564 (by decide) (fun hc => absurd hc hz) (fun hc => ?_)
  refine lv_iconst (v := nI (bn true)) hx hb dL_law_567 (by decide) ?_
  refine lv_goto (tgt := 572) hx hb dL_law_568 (by decide) ?_
  have hSz : s.heap.size ≤ H1.size := hS.1
  have hPD := pd_perm (List.perm_append_comm (l₁ := MW A t μ) (l₂ := OUT t o b9.1 :: b9.2)) hP hD
  have hq := pd_sub (List.sublist_append_right (OUT t o b9.1 :: b9.2) (MW A t μ)) hPD.1 hPD.2
  have hsr := sz_in (L := ML A) hq.2 rfl hSz
  refine call_M (va_runV (As := [.int (xs (nI (i + 1)).toNatClampNeg), .int (xs (nI (i + 2)).toNatClampNeg), .int (nI (bn true))]) (rest := []) ⟨hx, hb, hml, hown, hts⟩ (hM A H1.size) (kV hts qw1062 qw1063 qw1064 qw9 qw1065 ok_X5_flip ⟨Nat.le_of_ble_eq_true rfl, Nat.le_of_ble_eq_true rfl⟩) ⟨PM.blind, va_recv hK hq.1 (ci := 6) (q0 := 0) rfl rfl, fun U hU hW => ⟨rfl, by rw [hU]; exact (hC.at hS hZ).warm hW, by rw [hU], by rw [hU]; exact hq.1, ⟨hq.2.1, fun _ _ h9 => Or.inl (in_map (L := ML A) rfl h9)⟩, fun q hq => hZ q (hsr q hq)⟩⟩ rfl rfl hl.1 rfl (lv_room (Nat.le_of_ble_eq_true rfl)) dL_law_572 ⟨by show cells + 6 + 0 ≤ 601024; omega, by show slots + 81 + 0 ≤ 7293034; omega⟩) hS hsr (fun H locs hP1 hD1 hS _ hk1 => ?_)
  obtain ⟨hP, hD⟩ := frm (L := ML A) (wr := OUT t o b9.1 :: b9.2) (ws := MW A t μ) (ws1 := MW A t m') rfl hPD.1 hPD.2 hsr hk1 hP1 hD1
  refine W.widen (k := cells + 6) (n := slots + 81) (Nat.le_refl _) (Nat.le_refl _) ?_
  refine lv_istore (lv' := (6, .int v') :: (5, .int (nI th)) :: [(4, .int (nI i)), (0, .ref b), (1, .ref x0), (2, .ref (A 0)), (3, .ref o)]) hx hb dL_law_575 hl (by decide) rfl (fun ls hl => ?_)
  refine lv_aload_n hx hb dL_law_577 rfl (lv_at hl 5 rfl) ?_
  have hq := pd_sub (List.sublist_append_right (OUT t o b9.1 :: b9.2) (MW A t m')) hP hD
  refine call_R (va_runV (As := []) (rest := []) ⟨hx, hb, hml, hown, hts⟩ (c_X5_thrown l s.heap.size D t A m' (m_thrown m') rfl) (kV hts qw1000 qw1001 qw1002 qw9 qw1003 ok_X5_thrown ⟨Nat.le_of_ble_eq_true rfl, Nat.le_of_ble_eq_true rfl⟩) ⟨PR.blind, va_recv hK hq.1 (ci := 6) (q0 := 0) rfl rfl, fun U hU hW => ⟨rfl, by rw [hU]; exact (hC.at hS hZ).warm hW, by rw [hU]; exact hq.1⟩⟩ rfl rfl hl.1 rfl (lv_room (Nat.le_of_ble_eq_true rfl)) dL_law_578 ⟨by show cells + 6 + 0 ≤ 601024; omega, by show slots + 81 + 0 ≤ 7293034; omega⟩) ?_
  refine lv_iload hx hb dL_law_581 (lv_at hl 1 rfl) ?_
  refine lv_icmp_eq (tgt := 588) hx hb dL_law_583 (by decide) (fun hc => ?_) (fun hc => absurd e1 hc)
  refine lv_iload hx hb dL_law_588 (lv_at hl 1 rfl) ?_
  refine lv_if_ne (tgt := 605) hx hb dL_law_590 (by decide) (fun hc => (lv_goto (tgt := 1560) hx hb dL_law_605 (by decide) (kk ls H locs ⟨b9.1, b9.2, m', lv_sub hl [2, 3, 4, 5, 6] rfl, hP, hD, hS, hR1.2⟩))) (fun hc => ?_)
  have hth : th = 0 := by
    have : nI th = nI 0 := hc
    rwa [nI_eq (by omega) (by decide)] at this
  refine lv_aload_n hx hb dL_law_593 rfl (lv_at hl 6 rfl) ?_
  refine lv_iconst (v := nI 0) hx hb dL_law_594 (by decide) ?_
  refine va_lald hx hb hK hP 0 6 rfl rfl vin01 dL_law_595 ?_
  refine lv_iload hx hb dL_law_596 (lv_at hl 0 rfl) ?_
  refine lv_i2l hx hb dL_law_598 rfl ?_
  refine W.lcmp hx hb dL_law_599 ?_
  refine lv_if_eq (tgt := 605) hx hb dL_law_600 (by decide) (fun hc => (lv_goto (tgt := 1560) hx hb dL_law_605 (by decide) (kk ls H locs ⟨b9.1, b9.2, m', lv_sub hl [2, 3, 4, 5, 6] rfl, hP, hD, hS, hR1.2⟩))) (fun hc => absurd ?_ hc)
  have h0 : b9.1 (nI 0).toNatClampNeg = v'.toInt64 := by rw [e3 hth]; exact hR1.1 hth
  show lg_cmp (b9.1 (nI 0).toNatClampNeg) v'.toInt64 = 0
  rw [h0]
  exact (lg_cmp_eq _ _).mpr rfl
theorem k_flip {p : Program} {l : Launch} {e : Env} {s : State} {m : MethodId} {below : List Frame} {meth : Method} {c : Code} {b L : Nat} {xs : Nat → Int32} {Q : State → Prop} {D : va_G} {t : Nat → ClassId} {x0 o : Nat} {A : Nat → Nat} (C0 : lw_At p s m meth c b L xs) (hC : CTX s.heap.size D t s s.heap) (hN : NC s) (hl9 : l.stackTraces = false) {i : Nat} (hi : i + 4 ≤ L) (hL : L ≤ 2048) {H : Heap} {locs : List Loc} {ls : Array Slot} (hI : LINV D t s b x0 o A (nI i) ls H locs) {cells slots : Nat} (hc1 : cells + 6 ≤ 601024) (hc2 : slots + 81 ≤ 7293034) (kk : ∀ ls H locs, LINV D t s b x0 o A (nI i) ls H locs → W p l e room_1 s m #[Value.ref b] below meth c H locs (cells + 6) (slots + 81) Q (F0 m 1560 ls [])) : W p l e room_1 s m #[Value.ref b] below meth c H locs cells slots Q (F0 m 512 ls []) := by
  by_cases hz : xs (nI (i + 3)).toNatClampNeg = 0
  · exact k_flip0 C0 hC hN hl9 hi hL hI hc1 hc2 kk hz
  · exact k_flip1 C0 hC hN hl9 hi hL hI hc1 hc2 kk hz
