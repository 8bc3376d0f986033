/-! ===== the law's cases without a try ===== -/
theorem pmD {α : Type} (o : α) (w M : List α) : ((o :: w) ++ M).Perm ((M ++ [o]) ++ w) := by
  haveI : DecidableEq α := fun a b => Classical.propDecidable (a = b)
  refine List.perm_iff_count.mpr fun z => ?_
  simp only [List.count_append, List.count_cons, List.count_nil]
  omega
set_option maxHeartbeats 4000000 in
theorem k_clearBuffer {p : Program} {l : Launch} {e : Env} {s : State} {m : MethodId} {below : List Frame} {meth : Method} {c : Code} {b L : Nat} {xs : Nat → Int32} {Q : State → Prop} {D : va_G} {t : Nat → ClassId} {x0 o : Nat} {A : Nat → Nat} (C0 : lw_At p s m meth c b L xs) (hC : CTX s.heap.size D t s s.heap) (hN : NC s) (hl9 : l.stackTraces = false) {i : Nat} (hi : i + 4 ≤ L) (hL : L ≤ 2048) {H : Heap} {locs : List Loc} {ls : Array Slot} (hI : LINV D t s b x0 o A (nI i) ls H locs) {cells slots : Nat} (hc1 : cells + 6 ≤ 601024) (hc2 : slots + 81 ≤ 7293034) (kk : ∀ ls H locs, LINV D t s b x0 o A (nI i) ls H locs → W p l e room_1 s m #[Value.ref b] below meth c H locs (cells + 6) (slots + 81) Q (F0 m 1560 ls [])) : W p l e room_1 s m #[Value.ref b] below meth c H locs cells slots Q (F0 m 752 ls []) := by
  obtain ⟨hx, hb, hr, hml, hown, hts0, hX, hbl, hlocks, hgv⟩ := C0
  have hts : ∀ w ∈ LA, w.before _ s = true := fun w hw => hts0 w (LA_tbl w hw)
  obtain ⟨f, w, μ, hl, hP, hD, hS, hw⟩ := hI
  have hK := hC.1
  have hZ : ∀ q, OA [] s.heap.size q → s.heap.size ≤ q := fun q h => h.elim (fun z => nomatch z) id
  refine lv_aload_n hx hb dL_law_752 rfl (lv_at hl 2 rfl) ?_
  obtain ⟨v, m', hM, hX2⟩ := od_clearBuffer l s.heap.size D t x0 hw
  have hSz : s.heap.size ≤ H.size := hS.1
  have hPD := pd_perm (pmD (OUT t o f) w (MW A t μ)) hP hD
  have hq := pd_sub (List.sublist_append_right (MW A t μ ++ [OUT t o f]) w) hPD.1 hPD.2
  have hsr := sz_in (L := w.map Prod.fst) hq.2 rfl hSz
  obtain ⟨fs, h0⟩ := XR_h0 hw
  refine call_Q (va_runV (As := []) (rest := []) ⟨hx, hb, hml, hown, hts⟩ (hX2 H.size) (kV hts qw173 qw174 qw175 qw1 qw176 ok_X4_clearBuffer ⟨Nat.le_of_ble_eq_true rfl, Nat.le_of_ble_eq_true rfl⟩) ⟨PM.blind, va_recv hK hq.1 (ci := 5) (q0 := 0) rfl h0, fun U hU hW => ⟨rfl, by rw [hU]; exact (hC.at hS hZ).warm hW, by rw [hU], by rw [hU]; exact hq.1, ⟨hq.2.1, fun _ _ h9 => Or.inl (in_map rfl h9)⟩, fun q hq => hZ q (hsr q hq)⟩⟩ rfl rfl hl.1 rfl (lv_room (Nat.le_of_ble_eq_true rfl)) dL_law_753 ⟨by show cells + 0 ≤ 601024; omega, by show slots + 0 ≤ 7293034; omega⟩) hS hsr (fun w1 H1 locs1 hR1 hP1 hD1 hS _ hk1 => ?_)
  obtain ⟨hP, hD⟩ := frm (wr := MW A t μ ++ [OUT t o f]) (ws := w) (ws1 := w1) rfl hPD.1 hPD.2 hsr hk1 hP1 hD1
  refine W.widen (k := cells + 6) (n := slots + 81) (by show cells + 0 ≤ _; omega) (by show slots + 0 ≤ _; omega) ?_
  refine lv_aload_n hx hb dL_law_756 rfl (lv_at hl 3 rfl) ?_
  have hSz : s.heap.size ≤ H1.size := hS.1
  obtain ⟨hP, hD⟩ := pd_perm (pmD (OUT t o f) w1 (MW A t μ)).symm hP hD
  have hq := pd_sub (List.sublist_append_right (OUT t o f :: w1) (MW A t μ)) hP hD
  have hsr := sz_in (L := ML A) hq.2 rfl hSz
  refine call_M (va_runV (As := []) (rest := [.int v]) ⟨hx, hb, hml, hown, hts⟩ (hM A H1.size) (kV hts qw1122 qw1123 qw1124 qw9 qw1125 ok_X5_clearBuffer ⟨Nat.le_of_ble_eq_true rfl, Nat.le_of_ble_eq_true rfl⟩) ⟨PM.blind, va_recv hK hq.1 (ci := 6) (q0 := 0) rfl rfl, fun U hU hW => ⟨rfl, by rw [hU]; exact (hC.at hS hZ).warm hW, by rw [hU], by rw [hU]; exact hq.1, ⟨hq.2.1, fun _ _ h9 => Or.inl (in_map (L := ML A) rfl h9)⟩, fun q hq => hZ q (hsr q hq)⟩⟩ rfl rfl hl.1 rfl (lv_room (Nat.le_of_ble_eq_true rfl)) dL_law_757 ⟨by show cells + 6 + 0 ≤ 601024; omega, by show slots + 81 + 0 ≤ 7293034; omega⟩) hS hsr (fun H locs hP1 hD1 hS _ hk1 => ?_)
  obtain ⟨hP, hD⟩ := frm (L := ML A) (wr := OUT t o f :: w1) (ws := MW A t μ) (ws1 := MW A t m') rfl hP hD hsr hk1 hP1 hD1
  refine W.widen (k := cells + 6) (n := slots + 81) (Nat.le_refl _) (Nat.le_refl _) ?_
  exact lv_icmp_eq (tgt := 1560) hx hb dL_law_760 (by decide) (fun hc => (kk ls H locs ⟨f, w1, m', lv_sub hl [0, 1, 2, 3, 4] rfl, hP, hD, hS, hR1⟩)) (fun hc => absurd rfl hc)
set_option maxHeartbeats 4000000 in
theorem k_firstError {p : Program} {l : Launch} {e : Env} {s : State} {m : MethodId} {below : List Frame} {meth : Method} {c : Code} {b L : Nat} {xs : Nat → Int32} {Q : State → Prop} {D : va_G} {t : Nat → ClassId} {x0 o : Nat} {A : Nat → Nat} (C0 : lw_At p s m meth c b L xs) (hC : CTX s.heap.size D t s s.heap) (hN : NC s) (hl9 : l.stackTraces = false) {i : Nat} (hi : i + 4 ≤ L) (hL : L ≤ 2048) {H : Heap} {locs : List Loc} {ls : Array Slot} (hI : LINV D t s b x0 o A (nI i) ls H locs) {cells slots : Nat} (hc1 : cells + 6 ≤ 601024) (hc2 : slots + 81 ≤ 7293034) (kk : ∀ ls H locs, LINV D t s b x0 o A (nI i) ls H locs → W p l e room_1 s m #[Value.ref b] below meth c H locs (cells + 6) (slots + 81) Q (F0 m 1560 ls [])) : W p l e room_1 s m #[Value.ref b] below meth c H locs cells slots Q (F0 m 765 ls []) := by
  obtain ⟨hx, hb, hr, hml, hown, hts0, hX, hbl, hlocks, hgv⟩ := C0
  have hts : ∀ w ∈ LA, w.before _ s = true := fun w hw => hts0 w (LA_tbl w hw)
  obtain ⟨f, w, μ, hl, hP, hD, hS, hw⟩ := hI
  have hK := hC.1
  have hZ : ∀ q, OA [] s.heap.size q → s.heap.size ≤ q := fun q h => h.elim (fun z => nomatch z) id
  refine lv_aload_n hx hb dL_law_765 rfl (lv_at hl 2 rfl) ?_
  obtain ⟨v, m', hM, hX2⟩ := od_firstError l s.heap.size D t x0 hw
  have hSz : s.heap.size ≤ H.size := hS.1
  have hPD := pd_perm (pmD (OUT t o f) w (MW A t μ)) hP hD
  have hq := pd_sub (List.sublist_append_right (MW A t μ ++ [OUT t o f]) w) hPD.1 hPD.2
  have hsr := sz_in (L := w.map Prod.fst) hq.2 rfl hSz
  obtain ⟨fs, h0⟩ := XR_h0 hw
  refine call_Q (va_runV (As := []) (rest := []) ⟨hx, hb, hml, hown, hts⟩ (hX2 H.size) (kV hts qw177 qw178 qw179 qw1 qw180 ok_X4_firstError ⟨Nat.le_of_ble_eq_true rfl, Nat.le_of_ble_eq_true rfl⟩) ⟨PM.blind, va_recv hK hq.1 (ci := 5) (q0 := 0) rfl h0, fun U hU hW => ⟨rfl, by rw [hU]; exact (hC.at hS hZ).warm hW, by rw [hU], by rw [hU]; exact hq.1, ⟨hq.2.1, fun _ _ h9 => Or.inl (in_map rfl h9)⟩, fun q hq => hZ q (hsr q hq)⟩⟩ rfl rfl hl.1 rfl (lv_room (Nat.le_of_ble_eq_true rfl)) dL_law_766 ⟨by show cells + 1 ≤ 601024; omega, by show slots + 5 ≤ 7293034; omega⟩) hS hsr (fun w1 H1 locs1 hR1 hP1 hD1 hS _ hk1 => ?_)
  obtain ⟨hP, hD⟩ := frm (wr := MW A t μ ++ [OUT t o f]) (ws := w) (ws1 := w1) rfl hPD.1 hPD.2 hsr hk1 hP1 hD1
  refine W.widen (k := cells + 6) (n := slots + 81) (by show cells + 1 ≤ _; omega) (by show slots + 5 ≤ _; omega) ?_
  refine lv_aload_n hx hb dL_law_769 rfl (lv_at hl 3 rfl) ?_
  have hSz : s.heap.size ≤ H1.size := hS.1
  obtain ⟨hP, hD⟩ := pd_perm (pmD (OUT t o f) w1 (MW A t μ)).symm hP hD
  have hq := pd_sub (List.sublist_append_right (OUT t o f :: w1) (MW A t μ)) hP hD
  have hsr := sz_in (L := ML A) hq.2 rfl hSz
  refine call_M (va_runV (As := []) (rest := [.int v]) ⟨hx, hb, hml, hown, hts⟩ (hM A H1.size) (kV hts qw1126 qw1127 qw1128 qw9 qw1129 ok_X5_firstError ⟨Nat.le_of_ble_eq_true rfl, Nat.le_of_ble_eq_true rfl⟩) ⟨PM.blind, va_recv hK hq.1 (ci := 6) (q0 := 0) rfl rfl, fun U hU hW => ⟨rfl, by rw [hU]; exact (hC.at hS hZ).warm hW, by rw [hU], by rw [hU]; exact hq.1, ⟨hq.2.1, fun _ _ h9 => Or.inl (in_map (L := ML A) rfl h9)⟩, fun q hq => hZ q (hsr q hq)⟩⟩ rfl rfl hl.1 rfl (lv_room (Nat.le_of_ble_eq_true rfl)) dL_law_770 ⟨by show cells + 6 + 0 ≤ 601024; omega, by show slots + 81 + 0 ≤ 7293034; omega⟩) hS hsr (fun H locs hP1 hD1 hS _ hk1 => ?_)
  obtain ⟨hP, hD⟩ := frm (L := ML A) (wr := OUT t o f :: w1) (ws := MW A t μ) (ws1 := MW A t m') rfl hP hD hsr hk1 hP1 hD1
  refine W.widen (k := cells + 6) (n := slots + 81) (Nat.le_refl _) (Nat.le_refl _) ?_
  exact lv_icmp_eq (tgt := 1560) hx hb dL_law_773 (by decide) (fun hc => (kk ls H locs ⟨f, w1, m', lv_sub hl [0, 1, 2, 3, 4] rfl, hP, hD, hS, hR1⟩)) (fun hc => absurd rfl hc)
set_option maxHeartbeats 4000000 in
theorem k_ways {p : Program} {l : Launch} {e : Env} {s : State} {m : MethodId} {below : List Frame} {meth : Method} {c : Code} {b L : Nat} {xs : Nat → Int32} {Q : State → Prop} {D : va_G} {t : Nat → ClassId} {x0 o : Nat} {A : Nat → Nat} (C0 : lw_At p s m meth c b L xs) (hC : CTX s.heap.size D t s s.heap) (hN : NC s) (hl9 : l.stackTraces = false) {i : Nat} (hi : i + 4 ≤ L) (hL : L ≤ 2048) {H : Heap} {locs : List Loc} {ls : Array Slot} (hI : LINV D t s b x0 o A (nI i) ls H locs) {cells slots : Nat} (hc1 : cells + 6 ≤ 601024) (hc2 : slots + 81 ≤ 7293034) (kk : ∀ ls H locs, LINV D t s b x0 o A (nI i) ls H locs → W p l e room_1 s m #[Value.ref b] below meth c H locs (cells + 6) (slots + 81) Q (F0 m 1560 ls [])) : W p l e room_1 s m #[Value.ref b] below meth c H locs cells slots Q (F0 m 1330 ls []) := by
  obtain ⟨hx, hb, hr, hml, hown, hts0, hX, hbl, hlocks, hgv⟩ := C0
  have hts : ∀ w ∈ LA, w.before _ s = true := fun w hw => hts0 w (LA_tbl w hw)
  obtain ⟨f, w, μ, hl, hP, hD, hS, hw⟩ := hI
  have hK := hC.1
  have hZ : ∀ q, OA [] s.heap.size q → s.heap.size ≤ q := fun q h => h.elim (fun z => nomatch z) id
  refine lv_aload_n hx hb dL_law_1330 rfl (lv_at hl 2 rfl) ?_
  obtain ⟨v, m', hM, hX2⟩ := od_ways l s.heap.size D t x0 hw
  have hSz : s.heap.size ≤ H.size := hS.1
  have hPD := pd_perm (pmD (OUT t o f) w (MW A t μ)) hP hD
  have hq := pd_sub (List.sublist_append_right (MW A t μ ++ [OUT t o f]) w) hPD.1 hPD.2
  have hsr := sz_in (L := w.map Prod.fst) hq.2 rfl hSz
  obtain ⟨fs, h0⟩ := XR_h0 hw
  refine call_Q (va_runV (As := []) (rest := []) ⟨hx, hb, hml, hown, hts⟩ (hX2 H.size) (kV hts qw238 qw239 qw240 qw1 qw241 ok_X4_ways ⟨Nat.le_of_ble_eq_true rfl, Nat.le_of_ble_eq_true rfl⟩) ⟨PM.blind, va_recv hK hq.1 (ci := 5) (q0 := 0) rfl h0, fun U hU hW => ⟨rfl, by rw [hU]; exact (hC.at hS hZ).warm hW, by rw [hU], by rw [hU]; exact hq.1, ⟨hq.2.1, fun _ _ h9 => Or.inl (in_map rfl h9)⟩, fun q hq => hZ q (hsr q hq)⟩⟩ rfl rfl hl.1 rfl (lv_room (Nat.le_of_ble_eq_true rfl)) dL_law_1331 ⟨by show cells + 0 ≤ 601024; omega, by show slots + 0 ≤ 7293034; omega⟩) hS hsr (fun w1 H1 locs1 hR1 hP1 hD1 hS _ hk1 => ?_)
  obtain ⟨hP, hD⟩ := frm (wr := MW A t μ ++ [OUT t o f]) (ws := w) (ws1 := w1) rfl hPD.1 hPD.2 hsr hk1 hP1 hD1
  refine W.widen (k := cells + 6) (n := slots + 81) (by show cells + 0 ≤ _; omega) (by show slots + 0 ≤ _; omega) ?_
  refine lv_aload_n hx hb dL_law_1334 rfl (lv_at hl 3 rfl) ?_
  have hSz : s.heap.size ≤ H1.size := hS.1
  obtain ⟨hP, hD⟩ := pd_perm (pmD (OUT t o f) w1 (MW A t μ)).symm hP hD
  have hq := pd_sub (List.sublist_append_right (OUT t o f :: w1) (MW A t μ)) hP hD
  have hsr := sz_in (L := ML A) hq.2 rfl hSz
  refine call_M (va_runV (As := []) (rest := [.int v]) ⟨hx, hb, hml, hown, hts⟩ (hM A H1.size) (kV hts qw1197 qw1198 qw1199 qw9 qw1200 ok_X5_ways ⟨Nat.le_of_ble_eq_true rfl, Nat.le_of_ble_eq_true rfl⟩) ⟨PM.blind, va_recv hK hq.1 (ci := 6) (q0 := 0) rfl rfl, fun U hU hW => ⟨rfl, by rw [hU]; exact (hC.at hS hZ).warm hW, by rw [hU], by rw [hU]; exact hq.1, ⟨hq.2.1, fun _ _ h9 => Or.inl (in_map (L := ML A) rfl h9)⟩, fun q hq => hZ q (hsr q hq)⟩⟩ rfl rfl hl.1 rfl (lv_room (Nat.le_of_ble_eq_true rfl)) dL_law_1335 ⟨by show cells + 6 + 0 ≤ 601024; omega, by show slots + 81 + 0 ≤ 7293034; omega⟩) hS hsr (fun H locs hP1 hD1 hS _ hk1 => ?_)
  obtain ⟨hP, hD⟩ := frm (L := ML A) (wr := OUT t o f :: w1) (ws := MW A t μ) (ws1 := MW A t m') rfl hP hD hsr hk1 hP1 hD1
  refine W.widen (k := cells + 6) (n := slots + 81) (Nat.le_refl _) (Nat.le_refl _) ?_
  exact lv_icmp_eq (tgt := 1560) hx hb dL_law_1338 (by decide) (fun hc => (kk ls H locs ⟨f, w1, m', lv_sub hl [0, 1, 2, 3, 4] rfl, hP, hD, hS, hR1⟩)) (fun hc => absurd rfl hc)
set_option maxHeartbeats 4000000 in
theorem k_lonely {p : Program} {l : Launch} {e : Env} {s : State} {m : MethodId} {below : List Frame} {meth : Method} {c : Code} {b L : Nat} {xs : Nat → Int32} {Q : State → Prop} {D : va_G} {t : Nat → ClassId} {x0 o : Nat} {A : Nat → Nat} (C0 : lw_At p s m meth c b L xs) (hC : CTX s.heap.size D t s s.heap) (hN : NC s) (hl9 : l.stackTraces = false) {i : Nat} (hi : i + 4 ≤ L) (hL : L ≤ 2048) {H : Heap} {locs : List Loc} {ls : Array Slot} (hI : LINV D t s b x0 o A (nI i) ls H locs) {cells slots : Nat} (hc1 : cells + 6 ≤ 601024) (hc2 : slots + 81 ≤ 7293034) (kk : ∀ ls H locs, LINV D t s b x0 o A (nI i) ls H locs → W p l e room_1 s m #[Value.ref b] below meth c H locs (cells + 6) (slots + 81) Q (F0 m 1560 ls [])) : W p l e room_1 s m #[Value.ref b] below meth c H locs cells slots Q (F0 m 1479 ls []) := by
  obtain ⟨hx, hb, hr, hml, hown, hts0, hX, hbl, hlocks, hgv⟩ := C0
  have hts : ∀ w ∈ LA, w.before _ s = true := fun w hw => hts0 w (LA_tbl w hw)
  obtain ⟨f, w, μ, hl, hP, hD, hS, hw⟩ := hI
  have hK := hC.1
  have hZ : ∀ q, OA [] s.heap.size q → s.heap.size ≤ q := fun q h => h.elim (fun z => nomatch z) id
  refine lv_aload_n hx hb dL_law_1479 rfl (lv_at hl 2 rfl) ?_
  obtain ⟨v, m', hM, hX2⟩ := od_lonely l s.heap.size D t x0 hw
  have hSz : s.heap.size ≤ H.size := hS.1
  have hPD := pd_perm (pmD (OUT t o f) w (MW A t μ)) hP hD
  have hq := pd_sub (List.sublist_append_right (MW A t μ ++ [OUT t o f]) w) hPD.1 hPD.2
  have hsr := sz_in (L := w.map Prod.fst) hq.2 rfl hSz
  obtain ⟨fs, h0⟩ := XR_h0 hw
  refine call_Q (va_runV (As := []) (rest := []) ⟨hx, hb, hml, hown, hts⟩ (hX2 H.size) (kV hts qw334 qw335 qw336 qw1 qw337 ok_X4_lonely ⟨Nat.le_of_ble_eq_true rfl, Nat.le_of_ble_eq_true rfl⟩) ⟨PM.blind, va_recv hK hq.1 (ci := 5) (q0 := 0) rfl h0, fun U hU hW => ⟨rfl, by rw [hU]; exact (hC.at hS hZ).warm hW, by rw [hU], by rw [hU]; exact hq.1, ⟨hq.2.1, fun _ _ h9 => Or.inl (in_map rfl h9)⟩, fun q hq => hZ q (hsr q hq)⟩⟩ rfl rfl hl.1 rfl (lv_room (Nat.le_of_ble_eq_true rfl)) dL_law_1480 ⟨by show cells + 0 ≤ 601024; omega, by show slots + 0 ≤ 7293034; omega⟩) hS hsr (fun w1 H1 locs1 hR1 hP1 hD1 hS _ hk1 => ?_)
  obtain ⟨hP, hD⟩ := frm (wr := MW A t μ ++ [OUT t o f]) (ws := w) (ws1 := w1) rfl hPD.1 hPD.2 hsr hk1 hP1 hD1
  refine W.widen (k := cells + 6) (n := slots + 81) (by show cells + 0 ≤ _; omega) (by show slots + 0 ≤ _; omega) ?_
  refine lv_aload_n hx hb dL_law_1483 rfl (lv_at hl 3 rfl) ?_
  have hSz : s.heap.size ≤ H1.size := hS.1
  obtain ⟨hP, hD⟩ := pd_perm (pmD (OUT t o f) w1 (MW A t μ)).symm hP hD
  have hq := pd_sub (List.sublist_append_right (OUT t o f :: w1) (MW A t μ)) hP hD
  have hsr := sz_in (L := ML A) hq.2 rfl hSz
  refine call_M (va_runV (As := []) (rest := [.int v]) ⟨hx, hb, hml, hown, hts⟩ (hM A H1.size) (kV hts qw1224 qw1225 qw1226 qw9 qw1227 ok_X5_lonely ⟨Nat.le_of_ble_eq_true rfl, Nat.le_of_ble_eq_true rfl⟩) ⟨PM.blind, va_recv hK hq.1 (ci := 6) (q0 := 0) rfl rfl, fun U hU hW => ⟨rfl, by rw [hU]; exact (hC.at hS hZ).warm hW, by rw [hU], by rw [hU]; exact hq.1, ⟨hq.2.1, fun _ _ h9 => Or.inl (in_map (L := ML A) rfl h9)⟩, fun q hq => hZ q (hsr q hq)⟩⟩ rfl rfl hl.1 rfl (lv_room (Nat.le_of_ble_eq_true rfl)) dL_law_1484 ⟨by show cells + 6 + 0 ≤ 601024; omega, by show slots + 81 + 0 ≤ 7293034; omega⟩) hS hsr (fun H locs hP1 hD1 hS _ hk1 => ?_)
  obtain ⟨hP, hD⟩ := frm (L := ML A) (wr := OUT t o f :: w1) (ws := MW A t μ) (ws1 := MW A t m') rfl hP hD hsr hk1 hP1 hD1
  refine W.widen (k := cells + 6) (n := slots + 81) (Nat.le_refl _) (Nat.le_refl _) ?_
  exact lv_icmp_eq (tgt := 1560) hx hb dL_law_1487 (by decide) (fun hc => (kk ls H locs ⟨f, w1, m', lv_sub hl [0, 1, 2, 3, 4] rfl, hP, hD, hS, hR1⟩)) (fun hc => absurd rfl hc)
set_option maxHeartbeats 4000000 in
theorem k_bestPond {p : Program} {l : Launch} {e : Env} {s : State} {m : MethodId} {below : List Frame} {meth : Method} {c : Code} {b L : Nat} {xs : Nat → Int32} {Q : State → Prop} {D : va_G} {t : Nat → ClassId} {x0 o : Nat} {A : Nat → Nat} (C0 : lw_At p s m meth c b L xs) (hC : CTX s.heap.size D t s s.heap) (hN : NC s) (hl9 : l.stackTraces = false) {i : Nat} (hi : i + 4 ≤ L) (hL : L ≤ 2048) {H : Heap} {locs : List Loc} {ls : Array Slot} (hI : LINV D t s b x0 o A (nI i) ls H locs) {cells slots : Nat} (hc1 : cells + 6 ≤ 601024) (hc2 : slots + 81 ≤ 7293034) (kk : ∀ ls H locs, LINV D t s b x0 o A (nI i) ls H locs → W p l e room_1 s m #[Value.ref b] below meth c H locs (cells + 6) (slots + 81) Q (F0 m 1560 ls [])) : W p l e room_1 s m #[Value.ref b] below meth c H locs cells slots Q (F0 m 1492 ls []) := by
  obtain ⟨hx, hb, hr, hml, hown, hts0, hX, hbl, hlocks, hgv⟩ := C0
  have hts : ∀ w ∈ LA, w.before _ s = true := fun w hw => hts0 w (LA_tbl w hw)
  obtain ⟨f, w, μ, hl, hP, hD, hS, hw⟩ := hI
  have hK := hC.1
  have hZ : ∀ q, OA [] s.heap.size q → s.heap.size ≤ q := fun q h => h.elim (fun z => nomatch z) id
  refine lv_aload_n hx hb dL_law_1492 rfl (lv_at hl 2 rfl) ?_
  obtain ⟨v, m', hM, hX2⟩ := od_bestPond l s.heap.size D t x0 hw
  have hSz : s.heap.size ≤ H.size := hS.1
  have hPD := pd_perm (pmD (OUT t o f) w (MW A t μ)) hP hD
  have hq := pd_sub (List.sublist_append_right (MW A t μ ++ [OUT t o f]) w) hPD.1 hPD.2
  have hsr := sz_in (L := w.map Prod.fst) hq.2 rfl hSz
  obtain ⟨fs, h0⟩ := XR_h0 hw
  refine call_Q (va_runV (As := []) (rest := []) ⟨hx, hb, hml, hown, hts⟩ (hX2 H.size) (kV hts qw370 qw371 qw372 qw1 qw373 ok_X4_bestPond ⟨Nat.le_of_ble_eq_true rfl, Nat.le_of_ble_eq_true rfl⟩) ⟨PM.blind, va_recv hK hq.1 (ci := 5) (q0 := 0) rfl h0, fun U hU hW => ⟨rfl, by rw [hU]; exact (hC.at hS hZ).warm hW, by rw [hU], by rw [hU]; exact hq.1, ⟨hq.2.1, fun _ _ h9 => Or.inl (in_map rfl h9)⟩, fun q hq => hZ q (hsr q hq)⟩⟩ rfl rfl hl.1 rfl (lv_room (Nat.le_of_ble_eq_true rfl)) dL_law_1493 ⟨by show cells + 0 ≤ 601024; omega, by show slots + 0 ≤ 7293034; omega⟩) hS hsr (fun w1 H1 locs1 hR1 hP1 hD1 hS _ hk1 => ?_)
  obtain ⟨hP, hD⟩ := frm (wr := MW A t μ ++ [OUT t o f]) (ws := w) (ws1 := w1) rfl hPD.1 hPD.2 hsr hk1 hP1 hD1
  refine W.widen (k := cells + 6) (n := slots + 81) (by show cells + 0 ≤ _; omega) (by show slots + 0 ≤ _; omega) ?_
  refine lv_aload_n hx hb dL_law_1496 rfl (lv_at hl 3 rfl) ?_
  have hSz : s.heap.size ≤ H1.size := hS.1
  obtain ⟨hP, hD⟩ := pd_perm (pmD (OUT t o f) w1 (MW A t μ)).symm hP hD
  have hq := pd_sub (List.sublist_append_right (OUT t o f :: w1) (MW A t μ)) hP hD
  have hsr := sz_in (L := ML A) hq.2 rfl hSz
  refine call_M (va_runV (As := []) (rest := [.int v]) ⟨hx, hb, hml, hown, hts⟩ (hM A H1.size) (kV hts qw1228 qw1229 qw1230 qw9 qw1231 ok_X5_bestPond ⟨Nat.le_of_ble_eq_true rfl, Nat.le_of_ble_eq_true rfl⟩) ⟨PM.blind, va_recv hK hq.1 (ci := 6) (q0 := 0) rfl rfl, fun U hU hW => ⟨rfl, by rw [hU]; exact (hC.at hS hZ).warm hW, by rw [hU], by rw [hU]; exact hq.1, ⟨hq.2.1, fun _ _ h9 => Or.inl (in_map (L := ML A) rfl h9)⟩, fun q hq => hZ q (hsr q hq)⟩⟩ rfl rfl hl.1 rfl (lv_room (Nat.le_of_ble_eq_true rfl)) dL_law_1497 ⟨by show cells + 6 + 0 ≤ 601024; omega, by show slots + 81 + 0 ≤ 7293034; omega⟩) hS hsr (fun H locs hP1 hD1 hS _ hk1 => ?_)
  obtain ⟨hP, hD⟩ := frm (L := ML A) (wr := OUT t o f :: w1) (ws := MW A t μ) (ws1 := MW A t m') rfl hP hD hsr hk1 hP1 hD1
  refine W.widen (k := cells + 6) (n := slots + 81) (Nat.le_refl _) (Nat.le_refl _) ?_
  exact lv_icmp_eq (tgt := 1560) hx hb dL_law_1500 (by decide) (fun hc => (kk ls H locs ⟨f, w1, m', lv_sub hl [0, 1, 2, 3, 4] rfl, hP, hD, hS, hR1⟩)) (fun hc => absurd rfl hc)
set_option maxHeartbeats 4000000 in
theorem k_digest {p : Program} {l : Launch} {e : Env} {s : State} {m : MethodId} {below : List Frame} {meth : Method} {c : Code} {b L : Nat} {xs : Nat → Int32} {Q : State → Prop} {D : va_G} {t : Nat → ClassId} {x0 o : Nat} {A : Nat → Nat} (C0 : lw_At p s m meth c b L xs) (hC : CTX s.heap.size D t s s.heap) (hN : NC s) (hl9 : l.stackTraces = false) {i : Nat} (hi : i + 4 ≤ L) (hL : L ≤ 2048) {H : Heap} {locs : List Loc} {ls : Array Slot} (hI : LINV D t s b x0 o A (nI i) ls H locs) {cells slots : Nat} (hc1 : cells + 6 ≤ 601024) (hc2 : slots + 81 ≤ 7293034) (kk : ∀ ls H locs, LINV D t s b x0 o A (nI i) ls H locs → W p l e room_1 s m #[Value.ref b] below meth c H locs (cells + 6) (slots + 81) Q (F0 m 1560 ls [])) : W p l e room_1 s m #[Value.ref b] below meth c H locs cells slots Q (F0 m 1546 ls []) := by
  obtain ⟨hx, hb, hr, hml, hown, hts0, hX, hbl, hlocks, hgv⟩ := C0
  have hts : ∀ w ∈ LA, w.before _ s = true := fun w hw => hts0 w (LA_tbl w hw)
  obtain ⟨f, w, μ, hl, hP, hD, hS, hw⟩ := hI
  have hK := hC.1
  have hZ : ∀ q, OA [] s.heap.size q → s.heap.size ≤ q := fun q h => h.elim (fun z => nomatch z) id
  refine lv_aload_n hx hb dL_law_1546 rfl (lv_at hl 2 rfl) ?_
  obtain ⟨v, m', hM, hX2⟩ := od_digest l s.heap.size D t x0 hw
  have hSz : s.heap.size ≤ H.size := hS.1
  have hPD := pd_perm (pmD (OUT t o f) w (MW A t μ)) hP hD
  have hq := pd_sub (List.sublist_append_right (MW A t μ ++ [OUT t o f]) w) hPD.1 hPD.2
  have hsr := sz_in (L := w.map Prod.fst) hq.2 rfl hSz
  obtain ⟨fs, h0⟩ := XR_h0 hw
  refine call_Q (va_runV (As := []) (rest := []) ⟨hx, hb, hml, hown, hts⟩ (hX2 H.size) (kV hts qw417 qw418 qw419 qw1 qw420 ok_X4_digest ⟨Nat.le_of_ble_eq_true rfl, Nat.le_of_ble_eq_true rfl⟩) ⟨PM.blind, va_recv hK hq.1 (ci := 5) (q0 := 0) rfl h0, fun U hU hW => ⟨rfl, by rw [hU]; exact (hC.at hS hZ).warm hW, by rw [hU], by rw [hU]; exact hq.1, ⟨hq.2.1, fun _ _ h9 => Or.inl (in_map rfl h9)⟩, fun q hq => hZ q (hsr q hq)⟩⟩ rfl rfl hl.1 rfl (lv_room (Nat.le_of_ble_eq_true rfl)) dL_law_1547 ⟨by show cells + 0 ≤ 601024; omega, by show slots + 0 ≤ 7293034; omega⟩) hS hsr (fun w1 H1 locs1 hR1 hP1 hD1 hS _ hk1 => ?_)
  obtain ⟨hP, hD⟩ := frm (wr := MW A t μ ++ [OUT t o f]) (ws := w) (ws1 := w1) rfl hPD.1 hPD.2 hsr hk1 hP1 hD1
  refine W.widen (k := cells + 6) (n := slots + 81) (by show cells + 0 ≤ _; omega) (by show slots + 0 ≤ _; omega) ?_
  refine lv_aload_n hx hb dL_law_1550 rfl (lv_at hl 3 rfl) ?_
  have hSz : s.heap.size ≤ H1.size := hS.1
  obtain ⟨hP, hD⟩ := pd_perm (pmD (OUT t o f) w1 (MW A t μ)).symm hP hD
  have hq := pd_sub (List.sublist_append_right (OUT t o f :: w1) (MW A t μ)) hP hD
  have hsr := sz_in (L := ML A) hq.2 rfl hSz
  refine call_M (va_runV (As := []) (rest := [.long v]) ⟨hx, hb, hml, hown, hts⟩ (hM A H1.size) (kV hts qw1240 qw1241 qw1242 qw9 qw1243 ok_X5_digest ⟨Nat.le_of_ble_eq_true rfl, Nat.le_of_ble_eq_true rfl⟩) ⟨PM.blind, va_recv hK hq.1 (ci := 6) (q0 := 0) rfl rfl, fun U hU hW => ⟨rfl, by rw [hU]; exact (hC.at hS hZ).warm hW, by rw [hU], by rw [hU]; exact hq.1, ⟨hq.2.1, fun _ _ h9 => Or.inl (in_map (L := ML A) rfl h9)⟩, fun q hq => hZ q (hsr q hq)⟩⟩ rfl rfl hl.1 rfl (lv_room (Nat.le_of_ble_eq_true rfl)) dL_law_1551 ⟨by show cells + 6 + 0 ≤ 601024; omega, by show slots + 81 + 0 ≤ 7293034; omega⟩) hS hsr (fun H locs hP1 hD1 hS _ hk1 => ?_)
  obtain ⟨hP, hD⟩ := frm (L := ML A) (wr := OUT t o f :: w1) (ws := MW A t μ) (ws1 := MW A t m') rfl hP hD hsr hk1 hP1 hD1
  refine W.widen (k := cells + 6) (n := slots + 81) (Nat.le_refl _) (Nat.le_refl _) ?_
  refine W.lcmp hx hb dL_law_1554 ?_
  exact lv_if_eq (tgt := 1560) hx hb dL_law_1555 (by decide) (fun hc => (kk ls H locs ⟨f, w1, m', lv_sub hl [0, 1, 2, 3, 4] rfl, hP, hD, hS, hR1⟩)) (fun hc => absurd ((lg_cmp_eq _ _).mpr rfl) hc)
