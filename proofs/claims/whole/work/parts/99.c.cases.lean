/-! ===== the law's cases: one operation in the class and in the reference ===== -/
theorem XR_h0 {t : Nat → ClassId} {x0 : Nat} {m : MS} {w : va_W} (h : XR t x0 m w) : ∃ fs, w[0]? = some (x0, .inr (5, fs)) := by
  obtain ⟨μ, L, S0, S1, -, s0, s1, e0, E, A, B, G, T, rfl, -⟩ := h
  exact ⟨_, rfl⟩
def LINV (D : va_G) (t : Nat → ClassId) (s : State) (b x0 o : Nat) (A : Nat → Nat) (i : Int32) (ls : Array Slot) (H : Heap) (locs : List Loc) : Prop := ∃ (f : Nat → Int64) (w : va_W) (μ : MS), lv_has ls 9 [(4, .int i), (0, .ref b), (1, .ref x0), (2, .ref (A 0)), (3, .ref o)] ∧ va_P D vwCl ((OUT t o f :: w) ++ MW A t μ) H ∧ va_D (OA [] s.heap.size) ((OUT t o f :: w) ++ MW A t μ) ∧ va_S (OA [] s.heap.size) s.heap H locs ∧ XR t x0 μ w
theorem sz_in {z : Nat} {ws : va_W} {L : List Nat} {H : Heap} (hD : va_D (OA [] z) ws) (hL : ws.map Prod.fst = L) (h : z ≤ H.size) : ∀ q, OA L H.size q → OA [] z q := by
  subst hL
  rintro q (hq | hq)
  · obtain ⟨p, hp, rfl⟩ := List.mem_map.mp hq
    obtain ⟨k, hk⟩ := List.getElem?_of_mem hp
    exact hD.2 k p hk
  · exact Or.inr (Nat.le_trans h hq)
theorem vin_at {i k L : Nat} (h : i + k < L) (hL : L ≤ 2048) : vp_in (nI (i + k)) L := nI_in h (by omega)
set_option maxHeartbeats 4000000 in
theorem k_garden {p : Program} {l : Launch} {e : Env} {s : State} {m : MethodId} {below : List Frame} {meth : Method} {c : Code} {b L : Nat} {xs : Nat → Int32} {Q : State → Prop} {D : va_G} {t : Nat → ClassId} {x0 o : Nat} {A : Nat → Nat} (C0 : lw_At p s m meth c b L xs) (hC : CTX s.heap.size D t s s.heap) (hN : NC s) (hl9 : l.stackTraces = false) {i : Nat} (hi : i + 4 ≤ L) (hL : L ≤ 2048) {H : Heap} {locs : List Loc} {ls : Array Slot} (hI : LINV D t s b x0 o A (nI i) ls H locs) {cells slots : Nat} (hc1 : cells + 6 ≤ 601024) (hc2 : slots + 81 ≤ 7293034) (kk : ∀ ls H locs, LINV D t s b x0 o A (nI i) ls H locs → W p l e room_1 s m #[Value.ref b] below meth c H locs (cells + 6) (slots + 81) Q (F0 m 1560 ls [])) : W p l e room_1 s m #[Value.ref b] below meth c H locs cells slots Q (F0 m 160 ls []) := by
  obtain ⟨hx, hb, hr, hml, hown, hts0, hX, hbl, hlocks, hgv⟩ := C0
  have hts : ∀ w ∈ LA, w.before _ s = true := fun w hw => hts0 w (LA_tbl w hw)
  obtain ⟨f, w, μ, hl, hP, hD, hS, hw⟩ := hI
  have hK := hC.1
  have hZ : ∀ q, OA [] s.heap.size q → s.heap.size ≤ q := fun q h => h.elim (fun z => nomatch z) id
  have hbA : ¬ OA [] s.heap.size b := fun z => absurd hbl (Nat.not_lt.mpr (hZ b z))
  refine lv_aload_n hx hb dL_law_160 rfl (lv_at hl 2 rfl) ?_
  refine lv_aload_n hx hb dL_law_161 rfl (lv_at hl 1 rfl) ?_
  refine lv_iload hx hb dL_law_162 (lv_at hl 0 rfl) ?_
  refine lv_iconst (v := nI 1) hx hb dL_law_164 (by decide) ?_
  refine lv_iadd hx hb dL_law_165 ?_
  refine topI (nI_add i 1).symm ?_
  refine va_sld hx hb hX hbl hbA hS (vin_at (k := 1) (by omega) hL) dL_law_166 ?_
  refine lv_aload_n hx hb dL_law_167 rfl (lv_at hl 1 rfl) ?_
  refine lv_iload hx hb dL_law_168 (lv_at hl 0 rfl) ?_
  refine lv_iconst (v := nI 2) hx hb dL_law_170 (by decide) ?_
  refine lv_iadd hx hb dL_law_171 ?_
  refine topI (nI_add i 2).symm ?_
  refine va_sld hx hb hX hbl hbA hS (vin_at (k := 2) (by omega) hL) dL_law_172 ?_
  refine lv_aload_n hx hb dL_law_173 rfl (lv_at hl 4 rfl) ?_
  obtain ⟨v, v', th, m', e1, e2, e3, hM, hX2⟩ := op_garden l hl9 s.heap.size D t x0 hw (xs (nI (i + 1)).toNatClampNeg) (xs (nI (i + 2)).toNatClampNeg)
  have hSz : s.heap.size ≤ H.size := hS.1
  have hPD := pd_perm (List.perm_append_comm (l₁ := OUT t o f :: w) (l₂ := MW A t μ)) hP hD
  have hq := pd_sub (List.sublist_append_right (MW A t μ) (OUT t o f :: w)) hPD.1 hPD.2
  have hsr := sz_in (L := o :: w.map Prod.fst) hq.2 rfl hSz
  refine call_Q (vx_runSW (As := [.ref x0, .int (xs (nI (i + 1)).toNatClampNeg), .int (xs (nI (i + 2)).toNatClampNeg), .ref o]) (rest := []) ⟨hx, hb, hml, hown, hts⟩ (h_garden l s.heap.size D t x0 o f (xs (nI (i + 1)).toNatClampNeg) (xs (nI (i + 2)).toNatClampNeg) (XR_h0 hw) e2 hX2 H.size) (kH hts qw650 qw651 qw0 qw652 okL_garden ⟨Nat.le_of_ble_eq_true rfl, Nat.le_of_ble_eq_true rfl⟩) ⟨PMH.blind, fun U hU hW => ⟨rfl, ⟨by rw [hU]; exact (hC.at hS hZ).warm hW, hN.moved hW.alike⟩, by rw [hU], by rw [hU]; exact hq.1, ⟨hq.2.1, fun _ _ h9 => Or.inl (in_map (L := o :: w.map Prod.fst) rfl h9)⟩, fun q hq => hZ q (hsr q hq)⟩⟩ rfl rfl hl.1 rfl (lv_room (Nat.le_of_ble_eq_true rfl)) dL_law_174 ⟨by show cells + 5 ≤ 601024; omega, by show slots + 70 ≤ 7293034; omega⟩) hS hsr (fun b9 H1 locs1 hR1 hP1 hD1 hS _ hk1 => ?_)
  obtain ⟨hP, hD⟩ := frm (wr := MW A t μ) (ws := OUT t o f :: w) (ws1 := OUT t o b9.1 :: b9.2) rfl hPD.1 hPD.2 hsr hk1 hP1 hD1
  refine W.widen (k := cells + 6) (n := slots + 81) (by show cells + 5 ≤ _; omega) (by show slots + 70 ≤ _; omega) ?_
  refine lv_istore (lv' := (5, .int (nI th)) :: [(4, .int (nI i)), (0, .ref b), (1, .ref x0), (2, .ref (A 0)), (3, .ref o)]) hx hb dL_law_177 hl (by decide) rfl (fun ls hl => ?_)
  refine lv_aload_n hx hb dL_law_179 rfl (lv_at hl 4 rfl) ?_
  refine lv_aload_n hx hb dL_law_180 rfl (lv_at hl 2 rfl) ?_
  refine lv_iload hx hb dL_law_181 (lv_at hl 1 rfl) ?_
  refine lv_iconst (v := nI 1) hx hb dL_law_183 (by decide) ?_
  refine lv_iadd hx hb dL_law_184 ?_
  refine topI (nI_add i 1).symm ?_
  refine va_sld hx hb hX hbl hbA hS (vin_at (k := 1) (by omega) hL) dL_law_185 ?_
  refine lv_aload_n hx hb dL_law_186 rfl (lv_at hl 2 rfl) ?_
  refine lv_iload hx hb dL_law_187 (lv_at hl 1 rfl) ?_
  refine lv_iconst (v := nI 2) hx hb dL_law_189 (by decide) ?_
  refine lv_iadd hx hb dL_law_190 ?_
  refine topI (nI_add i 2).symm ?_
  refine va_sld hx hb hX hbl hbA hS (vin_at (k := 2) (by omega) hL) dL_law_191 ?_
  have hSz : s.heap.size ≤ H1.size := hS.1
  have hPD := pd_perm (List.perm_append_comm (l₁ := MW A t μ) (l₂ := OUT t o b9.1 :: b9.2)) hP hD
  have hq := pd_sub (List.sublist_append_right (OUT t o b9.1 :: b9.2) (MW A t μ)) hPD.1 hPD.2
  have hsr := sz_in (L := ML A) hq.2 rfl hSz
  refine call_M (va_runV (As := [.int (xs (nI (i + 1)).toNatClampNeg), .int (xs (nI (i + 2)).toNatClampNeg)]) (rest := []) ⟨hx, hb, hml, hown, hts⟩ (hM A H1.size) (kV hts qw1004 qw1005 qw1006 qw9 qw1007 ok_X5_garden ⟨Nat.le_of_ble_eq_true rfl, Nat.le_of_ble_eq_true rfl⟩) ⟨PM.blind, va_recv hK hq.1 (ci := 6) (q0 := 0) rfl rfl, fun U hU hW => ⟨rfl, by rw [hU]; exact (hC.at hS hZ).warm hW, by rw [hU], by rw [hU]; exact hq.1, ⟨hq.2.1, fun _ _ h9 => Or.inl (in_map (L := ML A) rfl h9)⟩, fun q hq => hZ q (hsr q hq)⟩⟩ rfl rfl hl.1 rfl (lv_room (Nat.le_of_ble_eq_true rfl)) dL_law_192 ⟨by show cells + 6 + 0 ≤ 601024; omega, by show slots + 81 + 0 ≤ 7293034; omega⟩) hS hsr (fun H locs hP1 hD1 hS _ hk1 => ?_)
  obtain ⟨hP, hD⟩ := frm (L := ML A) (wr := OUT t o b9.1 :: b9.2) (ws := MW A t μ) (ws1 := MW A t m') rfl hPD.1 hPD.2 hsr hk1 hP1 hD1
  refine W.widen (k := cells + 6) (n := slots + 81) (Nat.le_refl _) (Nat.le_refl _) ?_
  refine lv_istore (lv' := (6, .int v') :: (5, .int (nI th)) :: [(4, .int (nI i)), (0, .ref b), (1, .ref x0), (2, .ref (A 0)), (3, .ref o)]) hx hb dL_law_195 hl (by decide) rfl (fun ls hl => ?_)
  refine lv_aload_n hx hb dL_law_197 rfl (lv_at hl 5 rfl) ?_
  have hq := pd_sub (List.sublist_append_right (OUT t o b9.1 :: b9.2) (MW A t m')) hP hD
  refine call_R (va_runV (As := []) (rest := []) ⟨hx, hb, hml, hown, hts⟩ (c_X5_thrown l s.heap.size D t A m' (m_thrown m') rfl) (kV hts qw1000 qw1001 qw1002 qw9 qw1003 ok_X5_thrown ⟨Nat.le_of_ble_eq_true rfl, Nat.le_of_ble_eq_true rfl⟩) ⟨PR.blind, va_recv hK hq.1 (ci := 6) (q0 := 0) rfl rfl, fun U hU hW => ⟨rfl, by rw [hU]; exact (hC.at hS hZ).warm hW, by rw [hU]; exact hq.1⟩⟩ rfl rfl hl.1 rfl (lv_room (Nat.le_of_ble_eq_true rfl)) dL_law_198 ⟨by show cells + 6 + 0 ≤ 601024; omega, by show slots + 81 + 0 ≤ 7293034; omega⟩) ?_
  refine lv_iload hx hb dL_law_201 (lv_at hl 1 rfl) ?_
  refine lv_icmp_eq (tgt := 208) hx hb dL_law_203 (by decide) (fun hc => ?_) (fun hc => absurd e1 hc)
  refine lv_iload hx hb dL_law_208 (lv_at hl 1 rfl) ?_
  refine lv_if_ne (tgt := 225) hx hb dL_law_210 (by decide) (fun hc => (lv_goto (tgt := 1560) hx hb dL_law_225 (by decide) (kk ls H locs ⟨b9.1, b9.2, m', lv_sub hl [2, 3, 4, 5, 6] rfl, hP, hD, hS, hR1.2⟩))) (fun hc => ?_)
  have hth : th = 0 := by
    have : nI th = nI 0 := hc
    rwa [nI_eq (by omega) (by decide)] at this
  refine lv_aload_n hx hb dL_law_213 rfl (lv_at hl 6 rfl) ?_
  refine lv_iconst (v := nI 0) hx hb dL_law_214 (by decide) ?_
  refine va_lald hx hb hK hP 0 6 rfl rfl vin01 dL_law_215 ?_
  refine lv_iload hx hb dL_law_216 (lv_at hl 0 rfl) ?_
  refine lv_i2l hx hb dL_law_218 rfl ?_
  refine W.lcmp hx hb dL_law_219 ?_
  refine lv_if_eq (tgt := 225) hx hb dL_law_220 (by decide) (fun hc => (lv_goto (tgt := 1560) hx hb dL_law_225 (by decide) (kk ls H locs ⟨b9.1, b9.2, m', lv_sub hl [2, 3, 4, 5, 6] rfl, hP, hD, hS, hR1.2⟩))) (fun hc => absurd ?_ hc)
  have h0 : b9.1 (nI 0).toNatClampNeg = v'.toInt64 := by rw [e3 hth]; exact hR1.1 hth
  show lg_cmp (b9.1 (nI 0).toNatClampNeg) v'.toInt64 = 0
  rw [h0]
  exact (lg_cmp_eq _ _).mpr rfl
set_option maxHeartbeats 4000000 in
theorem k_pond {p : Program} {l : Launch} {e : Env} {s : State} {m : MethodId} {below : List Frame} {meth : Method} {c : Code} {b L : Nat} {xs : Nat → Int32} {Q : State → Prop} {D : va_G} {t : Nat → ClassId} {x0 o : Nat} {A : Nat → Nat} (C0 : lw_At p s m meth c b L xs) (hC : CTX s.heap.size D t s s.heap) (hN : NC s) (hl9 : l.stackTraces = false) {i : Nat} (hi : i + 4 ≤ L) (hL : L ≤ 2048) {H : Heap} {locs : List Loc} {ls : Array Slot} (hI : LINV D t s b x0 o A (nI i) ls H locs) {cells slots : Nat} (hc1 : cells + 6 ≤ 601024) (hc2 : slots + 81 ≤ 7293034) (kk : ∀ ls H locs, LINV D t s b x0 o A (nI i) ls H locs → W p l e room_1 s m #[Value.ref b] below meth c H locs (cells + 6) (slots + 81) Q (F0 m 1560 ls [])) : W p l e room_1 s m #[Value.ref b] below meth c H locs cells slots Q (F0 m 228 ls []) := by
  obtain ⟨hx, hb, hr, hml, hown, hts0, hX, hbl, hlocks, hgv⟩ := C0
  have hts : ∀ w ∈ LA, w.before _ s = true := fun w hw => hts0 w (LA_tbl w hw)
  obtain ⟨f, w, μ, hl, hP, hD, hS, hw⟩ := hI
  have hK := hC.1
  have hZ : ∀ q, OA [] s.heap.size q → s.heap.size ≤ q := fun q h => h.elim (fun z => nomatch z) id
  have hbA : ¬ OA [] s.heap.size b := fun z => absurd hbl (Nat.not_lt.mpr (hZ b z))
  refine lv_aload_n hx hb dL_law_228 rfl (lv_at hl 2 rfl) ?_
  refine lv_aload_n hx hb dL_law_229 rfl (lv_at hl 1 rfl) ?_
  refine lv_iload hx hb dL_law_230 (lv_at hl 0 rfl) ?_
  refine lv_iconst (v := nI 1) hx hb dL_law_232 (by decide) ?_
  refine lv_iadd hx hb dL_law_233 ?_
  refine topI (nI_add i 1).symm ?_
  refine va_sld hx hb hX hbl hbA hS (vin_at (k := 1) (by omega) hL) dL_law_234 ?_
  refine lv_aload_n hx hb dL_law_235 rfl (lv_at hl 1 rfl) ?_
  refine lv_iload hx hb dL_law_236 (lv_at hl 0 rfl) ?_
  refine lv_iconst (v := nI 2) hx hb dL_law_238 (by decide) ?_
  refine lv_iadd hx hb dL_law_239 ?_
  refine topI (nI_add i 2).symm ?_
  refine va_sld hx hb hX hbl hbA hS (vin_at (k := 2) (by omega) hL) dL_law_240 ?_
  refine lv_aload_n hx hb dL_law_241 rfl (lv_at hl 4 rfl) ?_
  obtain ⟨v, v', th, m', e1, e2, e3, hM, hX2⟩ := op_pond l hl9 s.heap.size D t x0 hw (xs (nI (i + 1)).toNatClampNeg) (xs (nI (i + 2)).toNatClampNeg)
  have hSz : s.heap.size ≤ H.size := hS.1
  have hPD := pd_perm (List.perm_append_comm (l₁ := OUT t o f :: w) (l₂ := MW A t μ)) hP hD
  have hq := pd_sub (List.sublist_append_right (MW A t μ) (OUT t o f :: w)) hPD.1 hPD.2
  have hsr := sz_in (L := o :: w.map Prod.fst) hq.2 rfl hSz
  refine call_Q (vx_runSW (As := [.ref x0, .int (xs (nI (i + 1)).toNatClampNeg), .int (xs (nI (i + 2)).toNatClampNeg), .ref o]) (rest := []) ⟨hx, hb, hml, hown, hts⟩ (h_pond l s.heap.size D t x0 o f (xs (nI (i + 1)).toNatClampNeg) (xs (nI (i + 2)).toNatClampNeg) (XR_h0 hw) e2 hX2 H.size) (kH hts qw746 qw747 qw0 qw748 okL_pond ⟨Nat.le_of_ble_eq_true rfl, Nat.le_of_ble_eq_true rfl⟩) ⟨PMH.blind, fun U hU hW => ⟨rfl, ⟨by rw [hU]; exact (hC.at hS hZ).warm hW, hN.moved hW.alike⟩, by rw [hU], by rw [hU]; exact hq.1, ⟨hq.2.1, fun _ _ h9 => Or.inl (in_map (L := o :: w.map Prod.fst) rfl h9)⟩, fun q hq => hZ q (hsr q hq)⟩⟩ rfl rfl hl.1 rfl (lv_room (Nat.le_of_ble_eq_true rfl)) dL_law_242 ⟨by show cells + 5 ≤ 601024; omega, by show slots + 70 ≤ 7293034; omega⟩) hS hsr (fun b9 H1 locs1 hR1 hP1 hD1 hS _ hk1 => ?_)
  obtain ⟨hP, hD⟩ := frm (wr := MW A t μ) (ws := OUT t o f :: w) (ws1 := OUT t o b9.1 :: b9.2) rfl hPD.1 hPD.2 hsr hk1 hP1 hD1
  refine W.widen (k := cells + 6) (n := slots + 81) (by show cells + 5 ≤ _; omega) (by show slots + 70 ≤ _; omega) ?_
  refine lv_istore (lv' := (5, .int (nI th)) :: [(4, .int (nI i)), (0, .ref b), (1, .ref x0), (2, .ref (A 0)), (3, .ref o)]) hx hb dL_law_245 hl (by decide) rfl (fun ls hl => ?_)
  refine lv_aload_n hx hb dL_law_247 rfl (lv_at hl 4 rfl) ?_
  refine lv_aload_n hx hb dL_law_248 rfl (lv_at hl 2 rfl) ?_
  refine lv_iload hx hb dL_law_249 (lv_at hl 1 rfl) ?_
  refine lv_iconst (v := nI 1) hx hb dL_law_251 (by decide) ?_
  refine lv_iadd hx hb dL_law_252 ?_
  refine topI (nI_add i 1).symm ?_
  refine va_sld hx hb hX hbl hbA hS (vin_at (k := 1) (by omega) hL) dL_law_253 ?_
  refine lv_aload_n hx hb dL_law_254 rfl (lv_at hl 2 rfl) ?_
  refine lv_iload hx hb dL_law_255 (lv_at hl 1 rfl) ?_
  refine lv_iconst (v := nI 2) hx hb dL_law_257 (by decide) ?_
  refine lv_iadd hx hb dL_law_258 ?_
  refine topI (nI_add i 2).symm ?_
  refine va_sld hx hb hX hbl hbA hS (vin_at (k := 2) (by omega) hL) dL_law_259 ?_
  have hSz : s.heap.size ≤ H1.size := hS.1
  have hPD := pd_perm (List.perm_append_comm (l₁ := MW A t μ) (l₂ := OUT t o b9.1 :: b9.2)) hP hD
  have hq := pd_sub (List.sublist_append_right (OUT t o b9.1 :: b9.2) (MW A t μ)) hPD.1 hPD.2
  have hsr := sz_in (L := ML A) hq.2 rfl hSz
  refine call_M (va_runV (As := [.int (xs (nI (i + 1)).toNatClampNeg), .int (xs (nI (i + 2)).toNatClampNeg)]) (rest := []) ⟨hx, hb, hml, hown, hts⟩ (hM A H1.size) (kV hts qw1023 qw1024 qw1025 qw9 qw1026 ok_X5_pond ⟨Nat.le_of_ble_eq_true rfl, Nat.le_of_ble_eq_true rfl⟩) ⟨PM.blind, va_recv hK hq.1 (ci := 6) (q0 := 0) rfl rfl, fun U hU hW => ⟨rfl, by rw [hU]; exact (hC.at hS hZ).warm hW, by rw [hU], by rw [hU]; exact hq.1, ⟨hq.2.1, fun _ _ h9 => Or.inl (in_map (L := ML A) rfl h9)⟩, fun q hq => hZ q (hsr q hq)⟩⟩ rfl rfl hl.1 rfl (lv_room (Nat.le_of_ble_eq_true rfl)) dL_law_260 ⟨by show cells + 6 + 0 ≤ 601024; omega, by show slots + 81 + 0 ≤ 7293034; omega⟩) hS hsr (fun H locs hP1 hD1 hS _ hk1 => ?_)
  obtain ⟨hP, hD⟩ := frm (L := ML A) (wr := OUT t o b9.1 :: b9.2) (ws := MW A t μ) (ws1 := MW A t m') rfl hPD.1 hPD.2 hsr hk1 hP1 hD1
  refine W.widen (k := cells + 6) (n := slots + 81) (Nat.le_refl _) (Nat.le_refl _) ?_
  refine lv_istore (lv' := (6, .int v') :: (5, .int (nI th)) :: [(4, .int (nI i)), (0, .ref b), (1, .ref x0), (2, .ref (A 0)), (3, .ref o)]) hx hb dL_law_263 hl (by decide) rfl (fun ls hl => ?_)
  refine lv_aload_n hx hb dL_law_265 rfl (lv_at hl 5 rfl) ?_
  have hq := pd_sub (List.sublist_append_right (OUT t o b9.1 :: b9.2) (MW A t m')) hP hD
  refine call_R (va_runV (As := []) (rest := []) ⟨hx, hb, hml, hown, hts⟩ (c_X5_thrown l s.heap.size D t A m' (m_thrown m') rfl) (kV hts qw1000 qw1001 qw1002 qw9 qw1003 ok_X5_thrown ⟨Nat.le_of_ble_eq_true rfl, Nat.le_of_ble_eq_true rfl⟩) ⟨PR.blind, va_recv hK hq.1 (ci := 6) (q0 := 0) rfl rfl, fun U hU hW => ⟨rfl, by rw [hU]; exact (hC.at hS hZ).warm hW, by rw [hU]; exact hq.1⟩⟩ rfl rfl hl.1 rfl (lv_room (Nat.le_of_ble_eq_true rfl)) dL_law_266 ⟨by show cells + 6 + 0 ≤ 601024; omega, by show slots + 81 + 0 ≤ 7293034; omega⟩) ?_
  refine lv_iload hx hb dL_law_269 (lv_at hl 1 rfl) ?_
  refine lv_icmp_eq (tgt := 276) hx hb dL_law_271 (by decide) (fun hc => ?_) (fun hc => absurd e1 hc)
  refine lv_iload hx hb dL_law_276 (lv_at hl 1 rfl) ?_
  refine lv_if_ne (tgt := 293) hx hb dL_law_278 (by decide) (fun hc => (lv_goto (tgt := 1560) hx hb dL_law_293 (by decide) (kk ls H locs ⟨b9.1, b9.2, m', lv_sub hl [2, 3, 4, 5, 6] rfl, hP, hD, hS, hR1.2⟩))) (fun hc => ?_)
  have hth : th = 0 := by
    have : nI th = nI 0 := hc
    rwa [nI_eq (by omega) (by decide)] at this
  refine lv_aload_n hx hb dL_law_281 rfl (lv_at hl 6 rfl) ?_
  refine lv_iconst (v := nI 0) hx hb dL_law_282 (by decide) ?_
  refine va_lald hx hb hK hP 0 6 rfl rfl vin01 dL_law_283 ?_
  refine lv_iload hx hb dL_law_284 (lv_at hl 0 rfl) ?_
  refine lv_i2l hx hb dL_law_286 rfl ?_
  refine W.lcmp hx hb dL_law_287 ?_
  refine lv_if_eq (tgt := 293) hx hb dL_law_288 (by decide) (fun hc => (lv_goto (tgt := 1560) hx hb dL_law_293 (by decide) (kk ls H locs ⟨b9.1, b9.2, m', lv_sub hl [2, 3, 4, 5, 6] rfl, hP, hD, hS, hR1.2⟩))) (fun hc => absurd ?_ hc)
  have h0 : b9.1 (nI 0).toNatClampNeg = v'.toInt64 := by rw [e3 hth]; exact hR1.1 hth
  show lg_cmp (b9.1 (nI 0).toNatClampNeg) v'.toInt64 = 0
  rw [h0]
  exact (lg_cmp_eq _ _).mpr rfl
set_option maxHeartbeats 4000000 in
theorem k_wall {p : Program} {l : Launch} {e : Env} {s : State} {m : MethodId} {below : List Frame} {meth : Method} {c : Code} {b L : Nat} {xs : Nat → Int32} {Q : State → Prop} {D : va_G} {t : Nat → ClassId} {x0 o : Nat} {A : Nat → Nat} (C0 : lw_At p s m meth c b L xs) (hC : CTX s.heap.size D t s s.heap) (hN : NC s) (hl9 : l.stackTraces = false) {i : Nat} (hi : i + 4 ≤ L) (hL : L ≤ 2048) {H : Heap} {locs : List Loc} {ls : Array Slot} (hI : LINV D t s b x0 o A (nI i) ls H locs) {cells slots : Nat} (hc1 : cells + 6 ≤ 601024) (hc2 : slots + 81 ≤ 7293034) (kk : ∀ ls H locs, LINV D t s b x0 o A (nI i) ls H locs → W p l e room_1 s m #[Value.ref b] below meth c H locs (cells + 6) (slots + 81) Q (F0 m 1560 ls [])) : W p l e room_1 s m #[Value.ref b] below meth c H locs cells slots Q (F0 m 296 ls []) := by
  obtain ⟨hx, hb, hr, hml, hown, hts0, hX, hbl, hlocks, hgv⟩ := C0
  have hts : ∀ w ∈ LA, w.before _ s = true := fun w hw => hts0 w (LA_tbl w hw)
  obtain ⟨f, w, μ, hl, hP, hD, hS, hw⟩ := hI
  have hK := hC.1
  have hZ : ∀ q, OA [] s.heap.size q → s.heap.size ≤ q := fun q h => h.elim (fun z => nomatch z) id
  have hbA : ¬ OA [] s.heap.size b := fun z => absurd hbl (Nat.not_lt.mpr (hZ b z))
  refine lv_aload_n hx hb dL_law_296 rfl (lv_at hl 2 rfl) ?_
  refine lv_aload_n hx hb dL_law_297 rfl (lv_at hl 1 rfl) ?_
  refine lv_iload hx hb dL_law_298 (lv_at hl 0 rfl) ?_
  refine lv_iconst (v := nI 1) hx hb dL_law_300 (by decide) ?_
  refine lv_iadd hx hb dL_law_301 ?_
  refine topI (nI_add i 1).symm ?_
  refine va_sld hx hb hX hbl hbA hS (vin_at (k := 1) (by omega) hL) dL_law_302 ?_
  refine lv_aload_n hx hb dL_law_303 rfl (lv_at hl 1 rfl) ?_
  refine lv_iload hx hb dL_law_304 (lv_at hl 0 rfl) ?_
  refine lv_iconst (v := nI 2) hx hb dL_law_306 (by decide) ?_
  refine lv_iadd hx hb dL_law_307 ?_
  refine topI (nI_add i 2).symm ?_
  refine va_sld hx hb hX hbl hbA hS (vin_at (k := 2) (by omega) hL) dL_law_308 ?_
  refine lv_aload_n hx hb dL_law_309 rfl (lv_at hl 4 rfl) ?_
  obtain ⟨v, v', th, m', e1, e2, e3, hM, hX2⟩ := op_wall l hl9 s.heap.size D t x0 hw (xs (nI (i + 1)).toNatClampNeg) (xs (nI (i + 2)).toNatClampNeg)
  have hSz : s.heap.size ≤ H.size := hS.1
  have hPD := pd_perm (List.perm_append_comm (l₁ := OUT t o f :: w) (l₂ := MW A t μ)) hP hD
  have hq := pd_sub (List.sublist_append_right (MW A t μ) (OUT t o f :: w)) hPD.1 hPD.2
  have hsr := sz_in (L := o :: w.map Prod.fst) hq.2 rfl hSz
  refine call_Q (vx_runSW (As := [.ref x0, .int (xs (nI (i + 1)).toNatClampNeg), .int (xs (nI (i + 2)).toNatClampNeg), .ref o]) (rest := []) ⟨hx, hb, hml, hown, hts⟩ (h_wall l s.heap.size D t x0 o f (xs (nI (i + 1)).toNatClampNeg) (xs (nI (i + 2)).toNatClampNeg) (XR_h0 hw) e2 hX2 H.size) (kH hts qw771 qw772 qw0 qw773 okL_wall ⟨Nat.le_of_ble_eq_true rfl, Nat.le_of_ble_eq_true rfl⟩) ⟨PMH.blind, fun U hU hW => ⟨rfl, ⟨by rw [hU]; exact (hC.at hS hZ).warm hW, hN.moved hW.alike⟩, by rw [hU], by rw [hU]; exact hq.1, ⟨hq.2.1, fun _ _ h9 => Or.inl (in_map (L := o :: w.map Prod.fst) rfl h9)⟩, fun q hq => hZ q (hsr q hq)⟩⟩ rfl rfl hl.1 rfl (lv_room (Nat.le_of_ble_eq_true rfl)) dL_law_310 ⟨by show cells + 5 ≤ 601024; omega, by show slots + 70 ≤ 7293034; omega⟩) hS hsr (fun b9 H1 locs1 hR1 hP1 hD1 hS _ hk1 => ?_)
  obtain ⟨hP, hD⟩ := frm (wr := MW A t μ) (ws := OUT t o f :: w) (ws1 := OUT t o b9.1 :: b9.2) rfl hPD.1 hPD.2 hsr hk1 hP1 hD1
  refine W.widen (k := cells + 6) (n := slots + 81) (by show cells + 5 ≤ _; omega) (by show slots + 70 ≤ _; omega) ?_
  refine lv_istore (lv' := (5, .int (nI th)) :: [(4, .int (nI i)), (0, .ref b), (1, .ref x0), (2, .ref (A 0)), (3, .ref o)]) hx hb dL_law_313 hl (by decide) rfl (fun ls hl => ?_)
  refine lv_aload_n hx hb dL_law_315 rfl (lv_at hl 4 rfl) ?_
  refine lv_aload_n hx hb dL_law_316 rfl (lv_at hl 2 rfl) ?_
  refine lv_iload hx hb dL_law_317 (lv_at hl 1 rfl) ?_
  refine lv_iconst (v := nI 1) hx hb dL_law_319 (by decide) ?_
  refine lv_iadd hx hb dL_law_320 ?_
  refine topI (nI_add i 1).symm ?_
  refine va_sld hx hb hX hbl hbA hS (vin_at (k := 1) (by omega) hL) dL_law_321 ?_
  refine lv_aload_n hx hb dL_law_322 rfl (lv_at hl 2 rfl) ?_
  refine lv_iload hx hb dL_law_323 (lv_at hl 1 rfl) ?_
  refine lv_iconst (v := nI 2) hx hb dL_law_325 (by decide) ?_
  refine lv_iadd hx hb dL_law_326 ?_
  refine topI (nI_add i 2).symm ?_
  refine va_sld hx hb hX hbl hbA hS (vin_at (k := 2) (by omega) hL) dL_law_327 ?_
  have hSz : s.heap.size ≤ H1.size := hS.1
  have hPD := pd_perm (List.perm_append_comm (l₁ := MW A t μ) (l₂ := OUT t o b9.1 :: b9.2)) hP hD
  have hq := pd_sub (List.sublist_append_right (OUT t o b9.1 :: b9.2) (MW A t μ)) hPD.1 hPD.2
  have hsr := sz_in (L := ML A) hq.2 rfl hSz
  refine call_M (va_runV (As := [.int (xs (nI (i + 1)).toNatClampNeg), .int (xs (nI (i + 2)).toNatClampNeg)]) (rest := []) ⟨hx, hb, hml, hown, hts⟩ (hM A H1.size) (kV hts qw1031 qw1032 qw1033 qw9 qw1034 ok_X5_wall ⟨Nat.le_of_ble_eq_true rfl, Nat.le_of_ble_eq_true rfl⟩) ⟨PM.blind, va_recv hK hq.1 (ci := 6) (q0 := 0) rfl rfl, fun U hU hW => ⟨rfl, by rw [hU]; exact (hC.at hS hZ).warm hW, by rw [hU], by rw [hU]; exact hq.1, ⟨hq.2.1, fun _ _ h9 => Or.inl (in_map (L := ML A) rfl h9)⟩, fun q hq => hZ q (hsr q hq)⟩⟩ rfl rfl hl.1 rfl (lv_room (Nat.le_of_ble_eq_true rfl)) dL_law_328 ⟨by show cells + 6 + 0 ≤ 601024; omega, by show slots + 81 + 0 ≤ 7293034; omega⟩) hS hsr (fun H locs hP1 hD1 hS _ hk1 => ?_)
  obtain ⟨hP, hD⟩ := frm (L := ML A) (wr := OUT t o b9.1 :: b9.2) (ws := MW A t μ) (ws1 := MW A t m') rfl hPD.1 hPD.2 hsr hk1 hP1 hD1
  refine W.widen (k := cells + 6) (n := slots + 81) (Nat.le_refl _) (Nat.le_refl _) ?_
  refine lv_istore (lv' := (6, .int v') :: (5, .int (nI th)) :: [(4, .int (nI i)), (0, .ref b), (1, .ref x0), (2, .ref (A 0)), (3, .ref o)]) hx hb dL_law_331 hl (by decide) rfl (fun ls hl => ?_)
  refine lv_aload_n hx hb dL_law_333 rfl (lv_at hl 5 rfl) ?_
  have hq := pd_sub (List.sublist_append_right (OUT t o b9.1 :: b9.2) (MW A t m')) hP hD
  refine call_R (va_runV (As := []) (rest := []) ⟨hx, hb, hml, hown, hts⟩ (c_X5_thrown l s.heap.size D t A m' (m_thrown m') rfl) (kV hts qw1000 qw1001 qw1002 qw9 qw1003 ok_X5_thrown ⟨Nat.le_of_ble_eq_true rfl, Nat.le_of_ble_eq_true rfl⟩) ⟨PR.blind, va_recv hK hq.1 (ci := 6) (q0 := 0) rfl rfl, fun U hU hW => ⟨rfl, by rw [hU]; exact (hC.at hS hZ).warm hW, by rw [hU]; exact hq.1⟩⟩ rfl rfl hl.1 rfl (lv_room (Nat.le_of_ble_eq_true rfl)) dL_law_334 ⟨by show cells + 6 + 0 ≤ 601024; omega, by show slots + 81 + 0 ≤ 7293034; omega⟩) ?_
  refine lv_iload hx hb dL_law_337 (lv_at hl 1 rfl) ?_
  refine lv_icmp_eq (tgt := 344) hx hb dL_law_339 (by decide) (fun hc => ?_) (fun hc => absurd e1 hc)
  refine lv_iload hx hb dL_law_344 (lv_at hl 1 rfl) ?_
  refine lv_if_ne (tgt := 361) hx hb dL_law_346 (by decide) (fun hc => (lv_goto (tgt := 1560) hx hb dL_law_361 (by decide) (kk ls H locs ⟨b9.1, b9.2, m', lv_sub hl [2, 3, 4, 5, 6] rfl, hP, hD, hS, hR1.2⟩))) (fun hc => ?_)
  have hth : th = 0 := by
    have : nI th = nI 0 := hc
    rwa [nI_eq (by omega) (by decide)] at this
  refine lv_aload_n hx hb dL_law_349 rfl (lv_at hl 6 rfl) ?_
  refine lv_iconst (v := nI 0) hx hb dL_law_350 (by decide) ?_
  refine va_lald hx hb hK hP 0 6 rfl rfl vin01 dL_law_351 ?_
  refine lv_iload hx hb dL_law_352 (lv_at hl 0 rfl) ?_
  refine lv_i2l hx hb dL_law_354 rfl ?_
  refine W.lcmp hx hb dL_law_355 ?_
  refine lv_if_eq (tgt := 361) hx hb dL_law_356 (by decide) (fun hc => (lv_goto (tgt := 1560) hx hb dL_law_361 (by decide) (kk ls H locs ⟨b9.1, b9.2, m', lv_sub hl [2, 3, 4, 5, 6] rfl, hP, hD, hS, hR1.2⟩))) (fun hc => absurd ?_ hc)
  have h0 : b9.1 (nI 0).toNatClampNeg = v'.toInt64 := by rw [e3 hth]; exact hR1.1 hth
  show lg_cmp (b9.1 (nI 0).toNatClampNeg) v'.toInt64 = 0
  rw [h0]
  exact (lg_cmp_eq _ _).mpr rfl
set_option maxHeartbeats 4000000 in
theorem k_lay {p : Program} {l : Launch} {e : Env} {s : State} {m : MethodId} {below : List Frame} {meth : Method} {c : Code} {b L : Nat} {xs : Nat → Int32} {Q : State → Prop} {D : va_G} {t : Nat → ClassId} {x0 o : Nat} {A : Nat → Nat} (C0 : lw_At p s m meth c b L xs) (hC : CTX s.heap.size D t s s.heap) (hN : NC s) (hl9 : l.stackTraces = false) {i : Nat} (hi : i + 4 ≤ L) (hL : L ≤ 2048) {H : Heap} {locs : List Loc} {ls : Array Slot} (hI : LINV D t s b x0 o A (nI i) ls H locs) {cells slots : Nat} (hc1 : cells + 6 ≤ 601024) (hc2 : slots + 81 ≤ 7293034) (kk : ∀ ls H locs, LINV D t s b x0 o A (nI i) ls H locs → W p l e room_1 s m #[Value.ref b] below meth c H locs (cells + 6) (slots + 81) Q (F0 m 1560 ls [])) : W p l e room_1 s m #[Value.ref b] below meth c H locs cells slots Q (F0 m 364 ls []) := by
  obtain ⟨hx, hb, hr, hml, hown, hts0, hX, hbl, hlocks, hgv⟩ := C0
  have hts : ∀ w ∈ LA, w.before _ s = true := fun w hw => hts0 w (LA_tbl w hw)
  obtain ⟨f, w, μ, hl, hP, hD, hS, hw⟩ := hI
  have hK := hC.1
  have hZ : ∀ q, OA [] s.heap.size q → s.heap.size ≤ q := fun q h => h.elim (fun z => nomatch z) id
  have hbA : ¬ OA [] s.heap.size b := fun z => absurd hbl (Nat.not_lt.mpr (hZ b z))
  refine lv_aload_n hx hb dL_law_364 rfl (lv_at hl 2 rfl) ?_
  refine lv_aload_n hx hb dL_law_365 rfl (lv_at hl 1 rfl) ?_
  refine lv_iload hx hb dL_law_366 (lv_at hl 0 rfl) ?_
  refine lv_iconst (v := nI 1) hx hb dL_law_368 (by decide) ?_
  refine lv_iadd hx hb dL_law_369 ?_
  refine topI (nI_add i 1).symm ?_
  refine va_sld hx hb hX hbl hbA hS (vin_at (k := 1) (by omega) hL) dL_law_370 ?_
  refine lv_aload_n hx hb dL_law_371 rfl (lv_at hl 1 rfl) ?_
  refine lv_iload hx hb dL_law_372 (lv_at hl 0 rfl) ?_
  refine lv_iconst (v := nI 2) hx hb dL_law_374 (by decide) ?_
  refine lv_iadd hx hb dL_law_375 ?_
  refine topI (nI_add i 2).symm ?_
  refine va_sld hx hb hX hbl hbA hS (vin_at (k := 2) (by omega) hL) dL_law_376 ?_
  refine lv_aload_n hx hb dL_law_377 rfl (lv_at hl 1 rfl) ?_
  refine lv_iload hx hb dL_law_378 (lv_at hl 0 rfl) ?_
  refine lv_iconst (v := nI 3) hx hb dL_law_380 (by decide) ?_
  refine lv_iadd hx hb dL_law_381 ?_
  refine topI (nI_add i 3).symm ?_
  refine va_sld hx hb hX hbl hbA hS (vin_at (k := 3) (by omega) hL) dL_law_382 ?_
  refine lv_aload_n hx hb dL_law_383 rfl (lv_at hl 4 rfl) ?_
  obtain ⟨v, v', th, m', e1, e2, e3, hM, hX2⟩ := op_lay l hl9 s.heap.size D t x0 hw (xs (nI (i + 1)).toNatClampNeg) (xs (nI (i + 2)).toNatClampNeg) (xs (nI (i + 3)).toNatClampNeg)
  have hSz : s.heap.size ≤ H.size := hS.1
  have hPD := pd_perm (List.perm_append_comm (l₁ := OUT t o f :: w) (l₂ := MW A t μ)) hP hD
  have hq := pd_sub (List.sublist_append_right (MW A t μ) (OUT t o f :: w)) hPD.1 hPD.2
  have hsr := sz_in (L := o :: w.map Prod.fst) hq.2 rfl hSz
  refine call_Q (vx_runSW (As := [.ref x0, .int (xs (nI (i + 1)).toNatClampNeg), .int (xs (nI (i + 2)).toNatClampNeg), .int (xs (nI (i + 3)).toNatClampNeg), .ref o]) (rest := []) ⟨hx, hb, hml, hown, hts⟩ (h_lay l s.heap.size D t x0 o f (xs (nI (i + 1)).toNatClampNeg) (xs (nI (i + 2)).toNatClampNeg) (xs (nI (i + 3)).toNatClampNeg) (XR_h0 hw) e2 hX2 H.size) (kH hts qw779 qw780 qw0 qw781 okL_lay ⟨Nat.le_of_ble_eq_true rfl, Nat.le_of_ble_eq_true rfl⟩) ⟨PMH.blind, fun U hU hW => ⟨rfl, ⟨by rw [hU]; exact (hC.at hS hZ).warm hW, hN.moved hW.alike⟩, by rw [hU], by rw [hU]; exact hq.1, ⟨hq.2.1, fun _ _ h9 => Or.inl (in_map (L := o :: w.map Prod.fst) rfl h9)⟩, fun q hq => hZ q (hsr q hq)⟩⟩ rfl rfl hl.1 rfl (lv_room (Nat.le_of_ble_eq_true rfl)) dL_law_384 ⟨by show cells + 5 ≤ 601024; omega, by show slots + 70 ≤ 7293034; omega⟩) hS hsr (fun b9 H1 locs1 hR1 hP1 hD1 hS _ hk1 => ?_)
  obtain ⟨hP, hD⟩ := frm (wr := MW A t μ) (ws := OUT t o f :: w) (ws1 := OUT t o b9.1 :: b9.2) rfl hPD.1 hPD.2 hsr hk1 hP1 hD1
  refine W.widen (k := cells + 6) (n := slots + 81) (by show cells + 5 ≤ _; omega) (by show slots + 70 ≤ _; omega) ?_
  refine lv_istore (lv' := (5, .int (nI th)) :: [(4, .int (nI i)), (0, .ref b), (1, .ref x0), (2, .ref (A 0)), (3, .ref o)]) hx hb dL_law_387 hl (by decide) rfl (fun ls hl => ?_)
  refine lv_aload_n hx hb dL_law_389 rfl (lv_at hl 4 rfl) ?_
  refine lv_aload_n hx hb dL_law_390 rfl (lv_at hl 2 rfl) ?_
  refine lv_iload hx hb dL_law_391 (lv_at hl 1 rfl) ?_
  refine lv_iconst (v := nI 1) hx hb dL_law_393 (by decide) ?_
  refine lv_iadd hx hb dL_law_394 ?_
  refine topI (nI_add i 1).symm ?_
  refine va_sld hx hb hX hbl hbA hS (vin_at (k := 1) (by omega) hL) dL_law_395 ?_
  refine lv_aload_n hx hb dL_law_396 rfl (lv_at hl 2 rfl) ?_
  refine lv_iload hx hb dL_law_397 (lv_at hl 1 rfl) ?_
  refine lv_iconst (v := nI 2) hx hb dL_law_399 (by decide) ?_
  refine lv_iadd hx hb dL_law_400 ?_
  refine topI (nI_add i 2).symm ?_
  refine va_sld hx hb hX hbl hbA hS (vin_at (k := 2) (by omega) hL) dL_law_401 ?_
  refine lv_aload_n hx hb dL_law_402 rfl (lv_at hl 2 rfl) ?_
  refine lv_iload hx hb dL_law_403 (lv_at hl 1 rfl) ?_
  refine lv_iconst (v := nI 3) hx hb dL_law_405 (by decide) ?_
  refine lv_iadd hx hb dL_law_406 ?_
  refine topI (nI_add i 3).symm ?_
  refine va_sld hx hb hX hbl hbA hS (vin_at (k := 3) (by omega) hL) dL_law_407 ?_
  have hSz : s.heap.size ≤ H1.size := hS.1
  have hPD := pd_perm (List.perm_append_comm (l₁ := MW A t μ) (l₂ := OUT t o b9.1 :: b9.2)) hP hD
  have hq := pd_sub (List.sublist_append_right (OUT t o b9.1 :: b9.2) (MW A t μ)) hPD.1 hPD.2
  have hsr := sz_in (L := ML A) hq.2 rfl hSz
  refine call_M (va_runV (As := [.int (xs (nI (i + 1)).toNatClampNeg), .int (xs (nI (i + 2)).toNatClampNeg), .int (xs (nI (i + 3)).toNatClampNeg)]) (rest := []) ⟨hx, hb, hml, hown, hts⟩ (hM A H1.size) (kV hts qw1039 qw1040 qw1041 qw9 qw1042 ok_X5_lay ⟨Nat.le_of_ble_eq_true rfl, Nat.le_of_ble_eq_true rfl⟩) ⟨PM.blind, va_recv hK hq.1 (ci := 6) (q0 := 0) rfl rfl, fun U hU hW => ⟨rfl, by rw [hU]; exact (hC.at hS hZ).warm hW, by rw [hU], by rw [hU]; exact hq.1, ⟨hq.2.1, fun _ _ h9 => Or.inl (in_map (L := ML A) rfl h9)⟩, fun q hq => hZ q (hsr q hq)⟩⟩ rfl rfl hl.1 rfl (lv_room (Nat.le_of_ble_eq_true rfl)) dL_law_408 ⟨by show cells + 6 + 0 ≤ 601024; omega, by show slots + 81 + 0 ≤ 7293034; omega⟩) hS hsr (fun H locs hP1 hD1 hS _ hk1 => ?_)
  obtain ⟨hP, hD⟩ := frm (L := ML A) (wr := OUT t o b9.1 :: b9.2) (ws := MW A t μ) (ws1 := MW A t m') rfl hPD.1 hPD.2 hsr hk1 hP1 hD1
  refine W.widen (k := cells + 6) (n := slots + 81) (Nat.le_refl _) (Nat.le_refl _) ?_
  refine lv_istore (lv' := (6, .int v') :: (5, .int (nI th)) :: [(4, .int (nI i)), (0, .ref b), (1, .ref x0), (2, .ref (A 0)), (3, .ref o)]) hx hb dL_law_411 hl (by decide) rfl (fun ls hl => ?_)
  refine lv_aload_n hx hb dL_law_413 rfl (lv_at hl 5 rfl) ?_
  have hq := pd_sub (List.sublist_append_right (OUT t o b9.1 :: b9.2) (MW A t m')) hP hD
  refine call_R (va_runV (As := []) (rest := []) ⟨hx, hb, hml, hown, hts⟩ (c_X5_thrown l s.heap.size D t A m' (m_thrown m') rfl) (kV hts qw1000 qw1001 qw1002 qw9 qw1003 ok_X5_thrown ⟨Nat.le_of_ble_eq_true rfl, Nat.le_of_ble_eq_true rfl⟩) ⟨PR.blind, va_recv hK hq.1 (ci := 6) (q0 := 0) rfl rfl, fun U hU hW => ⟨rfl, by rw [hU]; exact (hC.at hS hZ).warm hW, by rw [hU]; exact hq.1⟩⟩ rfl rfl hl.1 rfl (lv_room (Nat.le_of_ble_eq_true rfl)) dL_law_414 ⟨by show cells + 6 + 0 ≤ 601024; omega, by show slots + 81 + 0 ≤ 7293034; omega⟩) ?_
  refine lv_iload hx hb dL_law_417 (lv_at hl 1 rfl) ?_
  refine lv_icmp_eq (tgt := 424) hx hb dL_law_419 (by decide) (fun hc => ?_) (fun hc => absurd e1 hc)
  refine lv_iload hx hb dL_law_424 (lv_at hl 1 rfl) ?_
  refine lv_if_ne (tgt := 441) hx hb dL_law_426 (by decide) (fun hc => (lv_goto (tgt := 1560) hx hb dL_law_441 (by decide) (kk ls H locs ⟨b9.1, b9.2, m', lv_sub hl [2, 3, 4, 5, 6] rfl, hP, hD, hS, hR1.2⟩))) (fun hc => ?_)
  have hth : th = 0 := by
    have : nI th = nI 0 := hc
    rwa [nI_eq (by omega) (by decide)] at this
  refine lv_aload_n hx hb dL_law_429 rfl (lv_at hl 6 rfl) ?_
  refine lv_iconst (v := nI 0) hx hb dL_law_430 (by decide) ?_
  refine va_lald hx hb hK hP 0 6 rfl rfl vin01 dL_law_431 ?_
  refine lv_iload hx hb dL_law_432 (lv_at hl 0 rfl) ?_
  refine lv_i2l hx hb dL_law_434 rfl ?_
  refine W.lcmp hx hb dL_law_435 ?_
  refine lv_if_eq (tgt := 441) hx hb dL_law_436 (by decide) (fun hc => (lv_goto (tgt := 1560) hx hb dL_law_441 (by decide) (kk ls H locs ⟨b9.1, b9.2, m', lv_sub hl [2, 3, 4, 5, 6] rfl, hP, hD, hS, hR1.2⟩))) (fun hc => absurd ?_ hc)
  have h0 : b9.1 (nI 0).toNatClampNeg = v'.toInt64 := by rw [e3 hth]; exact hR1.1 hth
  show lg_cmp (b9.1 (nI 0).toNatClampNeg) v'.toInt64 = 0
  rw [h0]
  exact (lg_cmp_eq _ _).mpr rfl
set_option maxHeartbeats 4000000 in
theorem k_lift {p : Program} {l : Launch} {e : Env} {s : State} {m : MethodId} {below : List Frame} {meth : Method} {c : Code} {b L : Nat} {xs : Nat → Int32} {Q : State → Prop} {D : va_G} {t : Nat → ClassId} {x0 o : Nat} {A : Nat → Nat} (C0 : lw_At p s m meth c b L xs) (hC : CTX s.heap.size D t s s.heap) (hN : NC s) (hl9 : l.stackTraces = false) {i : Nat} (hi : i + 4 ≤ L) (hL : L ≤ 2048) {H : Heap} {locs : List Loc} {ls : Array Slot} (hI : LINV D t s b x0 o A (nI i) ls H locs) {cells slots : Nat} (hc1 : cells + 6 ≤ 601024) (hc2 : slots + 81 ≤ 7293034) (kk : ∀ ls H locs, LINV D t s b x0 o A (nI i) ls H locs → W p l e room_1 s m #[Value.ref b] below meth c H locs (cells + 6) (slots + 81) Q (F0 m 1560 ls [])) : W p l e room_1 s m #[Value.ref b] below meth c H locs cells slots Q (F0 m 444 ls []) := by
  obtain ⟨hx, hb, hr, hml, hown, hts0, hX, hbl, hlocks, hgv⟩ := C0
  have hts : ∀ w ∈ LA, w.before _ s = true := fun w hw => hts0 w (LA_tbl w hw)
  obtain ⟨f, w, μ, hl, hP, hD, hS, hw⟩ := hI
  have hK := hC.1
  have hZ : ∀ q, OA [] s.heap.size q → s.heap.size ≤ q := fun q h => h.elim (fun z => nomatch z) id
  have hbA : ¬ OA [] s.heap.size b := fun z => absurd hbl (Nat.not_lt.mpr (hZ b z))
  refine lv_aload_n hx hb dL_law_444 rfl (lv_at hl 2 rfl) ?_
  refine lv_aload_n hx hb dL_law_445 rfl (lv_at hl 1 rfl) ?_
  refine lv_iload hx hb dL_law_446 (lv_at hl 0 rfl) ?_
  refine lv_iconst (v := nI 1) hx hb dL_law_448 (by decide) ?_
  refine lv_iadd hx hb dL_law_449 ?_
  refine topI (nI_add i 1).symm ?_
  refine va_sld hx hb hX hbl hbA hS (vin_at (k := 1) (by omega) hL) dL_law_450 ?_
  refine lv_aload_n hx hb dL_law_451 rfl (lv_at hl 1 rfl) ?_
  refine lv_iload hx hb dL_law_452 (lv_at hl 0 rfl) ?_
  refine lv_iconst (v := nI 2) hx hb dL_law_454 (by decide) ?_
  refine lv_iadd hx hb dL_law_455 ?_
  refine topI (nI_add i 2).symm ?_
  refine va_sld hx hb hX hbl hbA hS (vin_at (k := 2) (by omega) hL) dL_law_456 ?_
  refine lv_aload_n hx hb dL_law_457 rfl (lv_at hl 4 rfl) ?_
  obtain ⟨v, v', th, m', e1, e2, e3, hM, hX2⟩ := op_lift l hl9 s.heap.size D t x0 hw (xs (nI (i + 1)).toNatClampNeg) (xs (nI (i + 2)).toNatClampNeg)
  have hSz : s.heap.size ≤ H.size := hS.1
  have hPD := pd_perm (List.perm_append_comm (l₁ := OUT t o f :: w) (l₂ := MW A t μ)) hP hD
  have hq := pd_sub (List.sublist_append_right (MW A t μ) (OUT t o f :: w)) hPD.1 hPD.2
  have hsr := sz_in (L := o :: w.map Prod.fst) hq.2 rfl hSz
  refine call_Q (vx_runSW (As := [.ref x0, .int (xs (nI (i + 1)).toNatClampNeg), .int (xs (nI (i + 2)).toNatClampNeg), .ref o]) (rest := []) ⟨hx, hb, hml, hown, hts⟩ (h_lift l s.heap.size D t x0 o f (xs (nI (i + 1)).toNatClampNeg) (xs (nI (i + 2)).toNatClampNeg) (XR_h0 hw) e2 hX2 H.size) (kH hts qw790 qw791 qw0 qw792 okL_lift ⟨Nat.le_of_ble_eq_true rfl, Nat.le_of_ble_eq_true rfl⟩) ⟨PMH.blind, fun U hU hW => ⟨rfl, ⟨by rw [hU]; exact (hC.at hS hZ).warm hW, hN.moved hW.alike⟩, by rw [hU], by rw [hU]; exact hq.1, ⟨hq.2.1, fun _ _ h9 => Or.inl (in_map (L := o :: w.map Prod.fst) rfl h9)⟩, fun q hq => hZ q (hsr q hq)⟩⟩ rfl rfl hl.1 rfl (lv_room (Nat.le_of_ble_eq_true rfl)) dL_law_458 ⟨by show cells + 5 ≤ 601024; omega, by show slots + 70 ≤ 7293034; omega⟩) hS hsr (fun b9 H1 locs1 hR1 hP1 hD1 hS _ hk1 => ?_)
  obtain ⟨hP, hD⟩ := frm (wr := MW A t μ) (ws := OUT t o f :: w) (ws1 := OUT t o b9.1 :: b9.2) rfl hPD.1 hPD.2 hsr hk1 hP1 hD1
  refine W.widen (k := cells + 6) (n := slots + 81) (by show cells + 5 ≤ _; omega) (by show slots + 70 ≤ _; omega) ?_
  refine lv_istore (lv' := (5, .int (nI th)) :: [(4, .int (nI i)), (0, .ref b), (1, .ref x0), (2, .ref (A 0)), (3, .ref o)]) hx hb dL_law_461 hl (by decide) rfl (fun ls hl => ?_)
  refine lv_aload_n hx hb dL_law_463 rfl (lv_at hl 4 rfl) ?_
  refine lv_aload_n hx hb dL_law_464 rfl (lv_at hl 2 rfl) ?_
  refine lv_iload hx hb dL_law_465 (lv_at hl 1 rfl) ?_
  refine lv_iconst (v := nI 1) hx hb dL_law_467 (by decide) ?_
  refine lv_iadd hx hb dL_law_468 ?_
  refine topI (nI_add i 1).symm ?_
  refine va_sld hx hb hX hbl hbA hS (vin_at (k := 1) (by omega) hL) dL_law_469 ?_
  refine lv_aload_n hx hb dL_law_470 rfl (lv_at hl 2 rfl) ?_
  refine lv_iload hx hb dL_law_471 (lv_at hl 1 rfl) ?_
  refine lv_iconst (v := nI 2) hx hb dL_law_473 (by decide) ?_
  refine lv_iadd hx hb dL_law_474 ?_
  refine topI (nI_add i 2).symm ?_
  refine va_sld hx hb hX hbl hbA hS (vin_at (k := 2) (by omega) hL) dL_law_475 ?_
  have hSz : s.heap.size ≤ H1.size := hS.1
  have hPD := pd_perm (List.perm_append_comm (l₁ := MW A t μ) (l₂ := OUT t o b9.1 :: b9.2)) hP hD
  have hq := pd_sub (List.sublist_append_right (OUT t o b9.1 :: b9.2) (MW A t μ)) hPD.1 hPD.2
  have hsr := sz_in (L := ML A) hq.2 rfl hSz
  refine call_M (va_runV (As := [.int (xs (nI (i + 1)).toNatClampNeg), .int (xs (nI (i + 2)).toNatClampNeg)]) (rest := []) ⟨hx, hb, hml, hown, hts⟩ (hM A H1.size) (kV hts qw1054 qw1055 qw1056 qw9 qw1057 ok_X5_lift ⟨Nat.le_of_ble_eq_true rfl, Nat.le_of_ble_eq_true rfl⟩) ⟨PM.blind, va_recv hK hq.1 (ci := 6) (q0 := 0) rfl rfl, fun U hU hW => ⟨rfl, by rw [hU]; exact (hC.at hS hZ).warm hW, by rw [hU], by rw [hU]; exact hq.1, ⟨hq.2.1, fun _ _ h9 => Or.inl (in_map (L := ML A) rfl h9)⟩, fun q hq => hZ q (hsr q hq)⟩⟩ rfl rfl hl.1 rfl (lv_room (Nat.le_of_ble_eq_true rfl)) dL_law_476 ⟨by show cells + 6 + 0 ≤ 601024; omega, by show slots + 81 + 0 ≤ 7293034; omega⟩) hS hsr (fun H locs hP1 hD1 hS _ hk1 => ?_)
  obtain ⟨hP, hD⟩ := frm (L := ML A) (wr := OUT t o b9.1 :: b9.2) (ws := MW A t μ) (ws1 := MW A t m') rfl hPD.1 hPD.2 hsr hk1 hP1 hD1
  refine W.widen (k := cells + 6) (n := slots + 81) (Nat.le_refl _) (Nat.le_refl _) ?_
  refine lv_istore (lv' := (6, .int v') :: (5, .int (nI th)) :: [(4, .int (nI i)), (0, .ref b), (1, .ref x0), (2, .ref (A 0)), (3, .ref o)]) hx hb dL_law_479 hl (by decide) rfl (fun ls hl => ?_)
  refine lv_aload_n hx hb dL_law_481 rfl (lv_at hl 5 rfl) ?_
  have hq := pd_sub (List.sublist_append_right (OUT t o b9.1 :: b9.2) (MW A t m')) hP hD
  refine call_R (va_runV (As := []) (rest := []) ⟨hx, hb, hml, hown, hts⟩ (c_X5_thrown l s.heap.size D t A m' (m_thrown m') rfl) (kV hts qw1000 qw1001 qw1002 qw9 qw1003 ok_X5_thrown ⟨Nat.le_of_ble_eq_true rfl, Nat.le_of_ble_eq_true rfl⟩) ⟨PR.blind, va_recv hK hq.1 (ci := 6) (q0 := 0) rfl rfl, fun U hU hW => ⟨rfl, by rw [hU]; exact (hC.at hS hZ).warm hW, by rw [hU]; exact hq.1⟩⟩ rfl rfl hl.1 rfl (lv_room (Nat.le_of_ble_eq_true rfl)) dL_law_482 ⟨by show cells + 6 + 0 ≤ 601024; omega, by show slots + 81 + 0 ≤ 7293034; omega⟩) ?_
  refine lv_iload hx hb dL_law_485 (lv_at hl 1 rfl) ?_
  refine lv_icmp_eq (tgt := 492) hx hb dL_law_487 (by decide) (fun hc => ?_) (fun hc => absurd e1 hc)
  refine lv_iload hx hb dL_law_492 (lv_at hl 1 rfl) ?_
  refine lv_if_ne (tgt := 509) hx hb dL_law_494 (by decide) (fun hc => (lv_goto (tgt := 1560) hx hb dL_law_509 (by decide) (kk ls H locs ⟨b9.1, b9.2, m', lv_sub hl [2, 3, 4, 5, 6] rfl, hP, hD, hS, hR1.2⟩))) (fun hc => ?_)
  have hth : th = 0 := by
    have : nI th = nI 0 := hc
    rwa [nI_eq (by omega) (by decide)] at this
  refine lv_aload_n hx hb dL_law_497 rfl (lv_at hl 6 rfl) ?_
  refine lv_iconst (v := nI 0) hx hb dL_law_498 (by decide) ?_
  refine va_lald hx hb hK hP 0 6 rfl rfl vin01 dL_law_499 ?_
  refine lv_iload hx hb dL_law_500 (lv_at hl 0 rfl) ?_
  refine lv_i2l hx hb dL_law_502 rfl ?_
  refine W.lcmp hx hb dL_law_503 ?_
  refine lv_if_eq (tgt := 509) hx hb dL_law_504 (by decide) (fun hc => (lv_goto (tgt := 1560) hx hb dL_law_509 (by decide) (kk ls H locs ⟨b9.1, b9.2, m', lv_sub hl [2, 3, 4, 5, 6] rfl, hP, hD, hS, hR1.2⟩))) (fun hc => absurd ?_ hc)
  have h0 : b9.1 (nI 0).toNatClampNeg = v'.toInt64 := by rw [e3 hth]; exact hR1.1 hth
  show lg_cmp (b9.1 (nI 0).toNatClampNeg) v'.toInt64 = 0
  rw [h0]
  exact (lg_cmp_eq _ _).mpr rfl
set_option maxHeartbeats 4000000 in
theorem k_fill {p : Program} {l : Launch} {e : Env} {s : State} {m : MethodId} {below : List Frame} {meth : Method} {c : Code} {b L : Nat} {xs : Nat → Int32} {Q : State → Prop} {D : va_G} {t : Nat → ClassId} {x0 o : Nat} {A : Nat → Nat} (C0 : lw_At p s m meth c b L xs) (hC : CTX s.heap.size D t s s.heap) (hN : NC s) (hl9 : l.stackTraces = false) {i : Nat} (hi : i + 4 ≤ L) (hL : L ≤ 2048) {H : Heap} {locs : List Loc} {ls : Array Slot} (hI : LINV D t s b x0 o A (nI i) ls H locs) {cells slots : Nat} (hc1 : cells + 6 ≤ 601024) (hc2 : slots + 81 ≤ 7293034) (kk : ∀ ls H locs, LINV D t s b x0 o A (nI i) ls H locs → W p l e room_1 s m #[Value.ref b] below meth c H locs (cells + 6) (slots + 81) Q (F0 m 1560 ls [])) : W p l e room_1 s m #[Value.ref b] below meth c H locs cells slots Q (F0 m 608 ls []) := by
  obtain ⟨hx, hb, hr, hml, hown, hts0, hX, hbl, hlocks, hgv⟩ := C0
  have hts : ∀ w ∈ LA, w.before _ s = true := fun w hw => hts0 w (LA_tbl w hw)
  obtain ⟨f, w, μ, hl, hP, hD, hS, hw⟩ := hI
  have hK := hC.1
  have hZ : ∀ q, OA [] s.heap.size q → s.heap.size ≤ q := fun q h => h.elim (fun z => nomatch z) id
  have hbA : ¬ OA [] s.heap.size b := fun z => absurd hbl (Nat.not_lt.mpr (hZ b z))
  refine lv_aload_n hx hb dL_law_608 rfl (lv_at hl 2 rfl) ?_
  refine lv_aload_n hx hb dL_law_609 rfl (lv_at hl 4 rfl) ?_
  obtain ⟨v, v', th, m', e1, e2, e3, hM, hX2⟩ := op_fill l hl9 s.heap.size D t x0 hw
  have hSz : s.heap.size ≤ H.size := hS.1
  have hPD := pd_perm (List.perm_append_comm (l₁ := OUT t o f :: w) (l₂ := MW A t μ)) hP hD
  have hq := pd_sub (List.sublist_append_right (MW A t μ) (OUT t o f :: w)) hPD.1 hPD.2
  have hsr := sz_in (L := o :: w.map Prod.fst) hq.2 rfl hSz
  refine call_Q (vx_runSW (As := [.ref x0, .ref o]) (rest := []) ⟨hx, hb, hml, hown, hts⟩ (h_fill l s.heap.size D t x0 o f (XR_h0 hw) e2 hX2 H.size) (kH hts qw821 qw822 qw0 qw823 okL_fill ⟨Nat.le_of_ble_eq_true rfl, Nat.le_of_ble_eq_true rfl⟩) ⟨PMH.blind, fun U hU hW => ⟨rfl, ⟨by rw [hU]; exact (hC.at hS hZ).warm hW, hN.moved hW.alike⟩, by rw [hU], by rw [hU]; exact hq.1, ⟨hq.2.1, fun _ _ h9 => Or.inl (in_map (L := o :: w.map Prod.fst) rfl h9)⟩, fun q hq => hZ q (hsr q hq)⟩⟩ rfl rfl hl.1 rfl (lv_room (Nat.le_of_ble_eq_true rfl)) dL_law_610 ⟨by show cells + 5 ≤ 601024; omega, by show slots + 70 ≤ 7293034; omega⟩) hS hsr (fun b9 H1 locs1 hR1 hP1 hD1 hS _ hk1 => ?_)
  obtain ⟨hP, hD⟩ := frm (wr := MW A t μ) (ws := OUT t o f :: w) (ws1 := OUT t o b9.1 :: b9.2) rfl hPD.1 hPD.2 hsr hk1 hP1 hD1
  refine W.widen (k := cells + 6) (n := slots + 81) (by show cells + 5 ≤ _; omega) (by show slots + 70 ≤ _; omega) ?_
  refine lv_istore (lv' := (5, .int (nI th)) :: [(4, .int (nI i)), (0, .ref b), (1, .ref x0), (2, .ref (A 0)), (3, .ref o)]) hx hb dL_law_613 hl (by decide) rfl (fun ls hl => ?_)
  refine lv_aload_n hx hb dL_law_615 rfl (lv_at hl 4 rfl) ?_
  have hSz : s.heap.size ≤ H1.size := hS.1
  have hPD := pd_perm (List.perm_append_comm (l₁ := MW A t μ) (l₂ := OUT t o b9.1 :: b9.2)) hP hD
  have hq := pd_sub (List.sublist_append_right (OUT t o b9.1 :: b9.2) (MW A t μ)) hPD.1 hPD.2
  have hsr := sz_in (L := ML A) hq.2 rfl hSz
  refine call_M (va_runV (As := []) (rest := []) ⟨hx, hb, hml, hown, hts⟩ (hM A H1.size) (kV hts qw1074 qw1075 qw1076 qw9 qw1077 ok_X5_fill ⟨Nat.le_of_ble_eq_true rfl, Nat.le_of_ble_eq_true rfl⟩) ⟨PM.blind, va_recv hK hq.1 (ci := 6) (q0 := 0) rfl rfl, fun U hU hW => ⟨rfl, by rw [hU]; exact (hC.at hS hZ).warm hW, by rw [hU], by rw [hU]; exact hq.1, ⟨hq.2.1, fun _ _ h9 => Or.inl (in_map (L := ML A) rfl h9)⟩, fun q hq => hZ q (hsr q hq)⟩⟩ rfl rfl hl.1 rfl (lv_room (Nat.le_of_ble_eq_true rfl)) dL_law_616 ⟨by show cells + 6 + 0 ≤ 601024; omega, by show slots + 81 + 0 ≤ 7293034; omega⟩) hS hsr (fun H locs hP1 hD1 hS _ hk1 => ?_)
  obtain ⟨hP, hD⟩ := frm (L := ML A) (wr := OUT t o b9.1 :: b9.2) (ws := MW A t μ) (ws1 := MW A t m') rfl hPD.1 hPD.2 hsr hk1 hP1 hD1
  refine W.widen (k := cells + 6) (n := slots + 81) (Nat.le_refl _) (Nat.le_refl _) ?_
  refine lv_istore (lv' := (6, .int v') :: (5, .int (nI th)) :: [(4, .int (nI i)), (0, .ref b), (1, .ref x0), (2, .ref (A 0)), (3, .ref o)]) hx hb dL_law_619 hl (by decide) rfl (fun ls hl => ?_)
  refine lv_aload_n hx hb dL_law_621 rfl (lv_at hl 5 rfl) ?_
  have hq := pd_sub (List.sublist_append_right (OUT t o b9.1 :: b9.2) (MW A t m')) hP hD
  refine call_R (va_runV (As := []) (rest := []) ⟨hx, hb, hml, hown, hts⟩ (c_X5_thrown l s.heap.size D t A m' (m_thrown m') rfl) (kV hts qw1000 qw1001 qw1002 qw9 qw1003 ok_X5_thrown ⟨Nat.le_of_ble_eq_true rfl, Nat.le_of_ble_eq_true rfl⟩) ⟨PR.blind, va_recv hK hq.1 (ci := 6) (q0 := 0) rfl rfl, fun U hU hW => ⟨rfl, by rw [hU]; exact (hC.at hS hZ).warm hW, by rw [hU]; exact hq.1⟩⟩ rfl rfl hl.1 rfl (lv_room (Nat.le_of_ble_eq_true rfl)) dL_law_622 ⟨by show cells + 6 + 0 ≤ 601024; omega, by show slots + 81 + 0 ≤ 7293034; omega⟩) ?_
  refine lv_iload hx hb dL_law_625 (lv_at hl 1 rfl) ?_
  refine lv_icmp_eq (tgt := 632) hx hb dL_law_627 (by decide) (fun hc => ?_) (fun hc => absurd e1 hc)
  refine lv_iload hx hb dL_law_632 (lv_at hl 1 rfl) ?_
  refine lv_if_ne (tgt := 649) hx hb dL_law_634 (by decide) (fun hc => (lv_goto (tgt := 1560) hx hb dL_law_649 (by decide) (kk ls H locs ⟨b9.1, b9.2, m', lv_sub hl [2, 3, 4, 5, 6] rfl, hP, hD, hS, hR1.2⟩))) (fun hc => ?_)
  have hth : th = 0 := by
    have : nI th = nI 0 := hc
    rwa [nI_eq (by omega) (by decide)] at this
  refine lv_aload_n hx hb dL_law_637 rfl (lv_at hl 6 rfl) ?_
  refine lv_iconst (v := nI 0) hx hb dL_law_638 (by decide) ?_
  refine va_lald hx hb hK hP 0 6 rfl rfl vin01 dL_law_639 ?_
  refine lv_iload hx hb dL_law_640 (lv_at hl 0 rfl) ?_
  refine lv_i2l hx hb dL_law_642 rfl ?_
  refine W.lcmp hx hb dL_law_643 ?_
  refine lv_if_eq (tgt := 649) hx hb dL_law_644 (by decide) (fun hc => (lv_goto (tgt := 1560) hx hb dL_law_649 (by decide) (kk ls H locs ⟨b9.1, b9.2, m', lv_sub hl [2, 3, 4, 5, 6] rfl, hP, hD, hS, hR1.2⟩))) (fun hc => absurd ?_ hc)
  have h0 : b9.1 (nI 0).toNatClampNeg = v'.toInt64 := by rw [e3 hth]; exact hR1.1 hth
  show lg_cmp (b9.1 (nI 0).toNatClampNeg) v'.toInt64 = 0
  rw [h0]
  exact (lg_cmp_eq _ _).mpr rfl
set_option maxHeartbeats 4000000 in
theorem k_halve {p : Program} {l : Launch} {e : Env} {s : State} {m : MethodId} {below : List Frame} {meth : Method} {c : Code} {b L : Nat} {xs : Nat → Int32} {Q : State → Prop} {D : va_G} {t : Nat → ClassId} {x0 o : Nat} {A : Nat → Nat} (C0 : lw_At p s m meth c b L xs) (hC : CTX s.heap.size D t s s.heap) (hN : NC s) (hl9 : l.stackTraces = false) {i : Nat} (hi : i + 4 ≤ L) (hL : L ≤ 2048) {H : Heap} {locs : List Loc} {ls : Array Slot} (hI : LINV D t s b x0 o A (nI i) ls H locs) {cells slots : Nat} (hc1 : cells + 6 ≤ 601024) (hc2 : slots + 81 ≤ 7293034) (kk : ∀ ls H locs, LINV D t s b x0 o A (nI i) ls H locs → W p l e room_1 s m #[Value.ref b] below meth c H locs (cells + 6) (slots + 81) Q (F0 m 1560 ls [])) : W p l e room_1 s m #[Value.ref b] below meth c H locs cells slots Q (F0 m 652 ls []) := by
  obtain ⟨hx, hb, hr, hml, hown, hts0, hX, hbl, hlocks, hgv⟩ := C0
  have hts : ∀ w ∈ LA, w.before _ s = true := fun w hw => hts0 w (LA_tbl w hw)
  obtain ⟨f, w, μ, hl, hP, hD, hS, hw⟩ := hI
  have hK := hC.1
  have hZ : ∀ q, OA [] s.heap.size q → s.heap.size ≤ q := fun q h => h.elim (fun z => nomatch z) id
  have hbA : ¬ OA [] s.heap.size b := fun z => absurd hbl (Nat.not_lt.mpr (hZ b z))
  refine lv_aload_n hx hb dL_law_652 rfl (lv_at hl 2 rfl) ?_
  refine lv_aload_n hx hb dL_law_653 rfl (lv_at hl 4 rfl) ?_
  obtain ⟨v, v', th, m', e1, e2, e3, hM, hX2⟩ := op_halve l hl9 s.heap.size D t x0 hw
  have hSz : s.heap.size ≤ H.size := hS.1
  have hPD := pd_perm (List.perm_append_comm (l₁ := OUT t o f :: w) (l₂ := MW A t μ)) hP hD
  have hq := pd_sub (List.sublist_append_right (MW A t μ) (OUT t o f :: w)) hPD.1 hPD.2
  have hsr := sz_in (L := o :: w.map Prod.fst) hq.2 rfl hSz
  refine call_Q (vx_runSW (As := [.ref x0, .ref o]) (rest := []) ⟨hx, hb, hml, hown, hts⟩ (h_halve l s.heap.size D t x0 o f (XR_h0 hw) e2 hX2 H.size) (kH hts qw839 qw840 qw0 qw841 okL_halve ⟨Nat.le_of_ble_eq_true rfl, Nat.le_of_ble_eq_true rfl⟩) ⟨PMH.blind, fun U hU hW => ⟨rfl, ⟨by rw [hU]; exact (hC.at hS hZ).warm hW, hN.moved hW.alike⟩, by rw [hU], by rw [hU]; exact hq.1, ⟨hq.2.1, fun _ _ h9 => Or.inl (in_map (L := o :: w.map Prod.fst) rfl h9)⟩, fun q hq => hZ q (hsr q hq)⟩⟩ rfl rfl hl.1 rfl (lv_room (Nat.le_of_ble_eq_true rfl)) dL_law_654 ⟨by show cells + 5 ≤ 601024; omega, by show slots + 70 ≤ 7293034; omega⟩) hS hsr (fun b9 H1 locs1 hR1 hP1 hD1 hS _ hk1 => ?_)
  obtain ⟨hP, hD⟩ := frm (wr := MW A t μ) (ws := OUT t o f :: w) (ws1 := OUT t o b9.1 :: b9.2) rfl hPD.1 hPD.2 hsr hk1 hP1 hD1
  refine W.widen (k := cells + 6) (n := slots + 81) (by show cells + 5 ≤ _; omega) (by show slots + 70 ≤ _; omega) ?_
  refine lv_istore (lv' := (5, .int (nI th)) :: [(4, .int (nI i)), (0, .ref b), (1, .ref x0), (2, .ref (A 0)), (3, .ref o)]) hx hb dL_law_657 hl (by decide) rfl (fun ls hl => ?_)
  refine lv_aload_n hx hb dL_law_659 rfl (lv_at hl 4 rfl) ?_
  have hSz : s.heap.size ≤ H1.size := hS.1
  have hPD := pd_perm (List.perm_append_comm (l₁ := MW A t μ) (l₂ := OUT t o b9.1 :: b9.2)) hP hD
  have hq := pd_sub (List.sublist_append_right (OUT t o b9.1 :: b9.2) (MW A t μ)) hPD.1 hPD.2
  have hsr := sz_in (L := ML A) hq.2 rfl hSz
  refine call_M (va_runV (As := []) (rest := []) ⟨hx, hb, hml, hown, hts⟩ (hM A H1.size) (kV hts qw1102 qw1103 qw1104 qw9 qw1105 ok_X5_halve ⟨Nat.le_of_ble_eq_true rfl, Nat.le_of_ble_eq_true rfl⟩) ⟨PM.blind, va_recv hK hq.1 (ci := 6) (q0 := 0) rfl rfl, fun U hU hW => ⟨rfl, by rw [hU]; exact (hC.at hS hZ).warm hW, by rw [hU], by rw [hU]; exact hq.1, ⟨hq.2.1, fun _ _ h9 => Or.inl (in_map (L := ML A) rfl h9)⟩, fun q hq => hZ q (hsr q hq)⟩⟩ rfl rfl hl.1 rfl (lv_room (Nat.le_of_ble_eq_true rfl)) dL_law_660 ⟨by show cells + 6 + 0 ≤ 601024; omega, by show slots + 81 + 0 ≤ 7293034; omega⟩) hS hsr (fun H locs hP1 hD1 hS _ hk1 => ?_)
  obtain ⟨hP, hD⟩ := frm (L := ML A) (wr := OUT t o b9.1 :: b9.2) (ws := MW A t μ) (ws1 := MW A t m') rfl hPD.1 hPD.2 hsr hk1 hP1 hD1
  refine W.widen (k := cells + 6) (n := slots + 81) (Nat.le_refl _) (Nat.le_refl _) ?_
  refine lv_istore (lv' := (6, .int v') :: (5, .int (nI th)) :: [(4, .int (nI i)), (0, .ref b), (1, .ref x0), (2, .ref (A 0)), (3, .ref o)]) hx hb dL_law_663 hl (by decide) rfl (fun ls hl => ?_)
  refine lv_aload_n hx hb dL_law_665 rfl (lv_at hl 5 rfl) ?_
  have hq := pd_sub (List.sublist_append_right (OUT t o b9.1 :: b9.2) (MW A t m')) hP hD
  refine call_R (va_runV (As := []) (rest := []) ⟨hx, hb, hml, hown, hts⟩ (c_X5_thrown l s.heap.size D t A m' (m_thrown m') rfl) (kV hts qw1000 qw1001 qw1002 qw9 qw1003 ok_X5_thrown ⟨Nat.le_of_ble_eq_true rfl, Nat.le_of_ble_eq_true rfl⟩) ⟨PR.blind, va_recv hK hq.1 (ci := 6) (q0 := 0) rfl rfl, fun U hU hW => ⟨rfl, by rw [hU]; exact (hC.at hS hZ).warm hW, by rw [hU]; exact hq.1⟩⟩ rfl rfl hl.1 rfl (lv_room (Nat.le_of_ble_eq_true rfl)) dL_law_666 ⟨by show cells + 6 + 0 ≤ 601024; omega, by show slots + 81 + 0 ≤ 7293034; omega⟩) ?_
  refine lv_iload hx hb dL_law_669 (lv_at hl 1 rfl) ?_
  refine lv_icmp_eq (tgt := 676) hx hb dL_law_671 (by decide) (fun hc => ?_) (fun hc => absurd e1 hc)
  refine lv_iload hx hb dL_law_676 (lv_at hl 1 rfl) ?_
  refine lv_if_ne (tgt := 693) hx hb dL_law_678 (by decide) (fun hc => (lv_goto (tgt := 1560) hx hb dL_law_693 (by decide) (kk ls H locs ⟨b9.1, b9.2, m', lv_sub hl [2, 3, 4, 5, 6] rfl, hP, hD, hS, hR1.2⟩))) (fun hc => ?_)
  have hth : th = 0 := by
    have : nI th = nI 0 := hc
    rwa [nI_eq (by omega) (by decide)] at this
  refine lv_aload_n hx hb dL_law_681 rfl (lv_at hl 6 rfl) ?_
  refine lv_iconst (v := nI 0) hx hb dL_law_682 (by decide) ?_
  refine va_lald hx hb hK hP 0 6 rfl rfl vin01 dL_law_683 ?_
  refine lv_iload hx hb dL_law_684 (lv_at hl 0 rfl) ?_
  refine lv_i2l hx hb dL_law_686 rfl ?_
  refine W.lcmp hx hb dL_law_687 ?_
  refine lv_if_eq (tgt := 693) hx hb dL_law_688 (by decide) (fun hc => (lv_goto (tgt := 1560) hx hb dL_law_693 (by decide) (kk ls H locs ⟨b9.1, b9.2, m', lv_sub hl [2, 3, 4, 5, 6] rfl, hP, hD, hS, hR1.2⟩))) (fun hc => absurd ?_ hc)
  have h0 : b9.1 (nI 0).toNatClampNeg = v'.toInt64 := by rw [e3 hth]; exact hR1.1 hth
  show lg_cmp (b9.1 (nI 0).toNatClampNeg) v'.toInt64 = 0
  rw [h0]
  exact (lg_cmp_eq _ _).mpr rfl
set_option maxHeartbeats 4000000 in
theorem k_append {p : Program} {l : Launch} {e : Env} {s : State} {m : MethodId} {below : List Frame} {meth : Method} {c : Code} {b L : Nat} {xs : Nat → Int32} {Q : State → Prop} {D : va_G} {t : Nat → ClassId} {x0 o : Nat} {A : Nat → Nat} (C0 : lw_At p s m meth c b L xs) (hC : CTX s.heap.size D t s s.heap) (hN : NC s) (hl9 : l.stackTraces = false) {i : Nat} (hi : i + 4 ≤ L) (hL : L ≤ 2048) {H : Heap} {locs : List Loc} {ls : Array Slot} (hI : LINV D t s b x0 o A (nI i) ls H locs) {cells slots : Nat} (hc1 : cells + 6 ≤ 601024) (hc2 : slots + 81 ≤ 7293034) (kk : ∀ ls H locs, LINV D t s b x0 o A (nI i) ls H locs → W p l e room_1 s m #[Value.ref b] below meth c H locs (cells + 6) (slots + 81) Q (F0 m 1560 ls [])) : W p l e room_1 s m #[Value.ref b] below meth c H locs cells slots Q (F0 m 696 ls []) := by
  obtain ⟨hx, hb, hr, hml, hown, hts0, hX, hbl, hlocks, hgv⟩ := C0
  have hts : ∀ w ∈ LA, w.before _ s = true := fun w hw => hts0 w (LA_tbl w hw)
  obtain ⟨f, w, μ, hl, hP, hD, hS, hw⟩ := hI
  have hK := hC.1
  have hZ : ∀ q, OA [] s.heap.size q → s.heap.size ≤ q := fun q h => h.elim (fun z => nomatch z) id
  have hbA : ¬ OA [] s.heap.size b := fun z => absurd hbl (Nat.not_lt.mpr (hZ b z))
  refine lv_aload_n hx hb dL_law_696 rfl (lv_at hl 2 rfl) ?_
  refine lv_aload_n hx hb dL_law_697 rfl (lv_at hl 1 rfl) ?_
  refine lv_iload hx hb dL_law_698 (lv_at hl 0 rfl) ?_
  refine lv_iconst (v := nI 1) hx hb dL_law_700 (by decide) ?_
  refine lv_iadd hx hb dL_law_701 ?_
  refine topI (nI_add i 1).symm ?_
  refine va_sld hx hb hX hbl hbA hS (vin_at (k := 1) (by omega) hL) dL_law_702 ?_
  refine lv_aload_n hx hb dL_law_703 rfl (lv_at hl 4 rfl) ?_
  obtain ⟨v, v', th, m', e1, e2, e3, hM, hX2⟩ := op_append l hl9 s.heap.size D t x0 hw (xs (nI (i + 1)).toNatClampNeg)
  have hSz : s.heap.size ≤ H.size := hS.1
  have hPD := pd_perm (List.perm_append_comm (l₁ := OUT t o f :: w) (l₂ := MW A t μ)) hP hD
  have hq := pd_sub (List.sublist_append_right (MW A t μ) (OUT t o f :: w)) hPD.1 hPD.2
  have hsr := sz_in (L := o :: w.map Prod.fst) hq.2 rfl hSz
  refine call_Q (vx_runSW (As := [.ref x0, .int (xs (nI (i + 1)).toNatClampNeg), .ref o]) (rest := []) ⟨hx, hb, hml, hown, hts⟩ (h_append l s.heap.size D t x0 o f (xs (nI (i + 1)).toNatClampNeg) (XR_h0 hw) e2 hX2 H.size) (kH hts qw861 qw862 qw0 qw863 okL_append ⟨Nat.le_of_ble_eq_true rfl, Nat.le_of_ble_eq_true rfl⟩) ⟨PMH.blind, fun U hU hW => ⟨rfl, ⟨by rw [hU]; exact (hC.at hS hZ).warm hW, hN.moved hW.alike⟩, by rw [hU], by rw [hU]; exact hq.1, ⟨hq.2.1, fun _ _ h9 => Or.inl (in_map (L := o :: w.map Prod.fst) rfl h9)⟩, fun q hq => hZ q (hsr q hq)⟩⟩ rfl rfl hl.1 rfl (lv_room (Nat.le_of_ble_eq_true rfl)) dL_law_704 ⟨by show cells + 5 ≤ 601024; omega, by show slots + 70 ≤ 7293034; omega⟩) hS hsr (fun b9 H1 locs1 hR1 hP1 hD1 hS _ hk1 => ?_)
  obtain ⟨hP, hD⟩ := frm (wr := MW A t μ) (ws := OUT t o f :: w) (ws1 := OUT t o b9.1 :: b9.2) rfl hPD.1 hPD.2 hsr hk1 hP1 hD1
  refine W.widen (k := cells + 6) (n := slots + 81) (by show cells + 5 ≤ _; omega) (by show slots + 70 ≤ _; omega) ?_
  refine lv_istore (lv' := (5, .int (nI th)) :: [(4, .int (nI i)), (0, .ref b), (1, .ref x0), (2, .ref (A 0)), (3, .ref o)]) hx hb dL_law_707 hl (by decide) rfl (fun ls hl => ?_)
  refine lv_aload_n hx hb dL_law_709 rfl (lv_at hl 4 rfl) ?_
  refine lv_aload_n hx hb dL_law_710 rfl (lv_at hl 2 rfl) ?_
  refine lv_iload hx hb dL_law_711 (lv_at hl 1 rfl) ?_
  refine lv_iconst (v := nI 1) hx hb dL_law_713 (by decide) ?_
  refine lv_iadd hx hb dL_law_714 ?_
  refine topI (nI_add i 1).symm ?_
  refine va_sld hx hb hX hbl hbA hS (vin_at (k := 1) (by omega) hL) dL_law_715 ?_
  have hSz : s.heap.size ≤ H1.size := hS.1
  have hPD := pd_perm (List.perm_append_comm (l₁ := MW A t μ) (l₂ := OUT t o b9.1 :: b9.2)) hP hD
  have hq := pd_sub (List.sublist_append_right (OUT t o b9.1 :: b9.2) (MW A t μ)) hPD.1 hPD.2
  have hsr := sz_in (L := ML A) hq.2 rfl hSz
  refine call_M (va_runV (As := [.int (xs (nI (i + 1)).toNatClampNeg)]) (rest := []) ⟨hx, hb, hml, hown, hts⟩ (hM A H1.size) (kV hts qw1118 qw1119 qw1120 qw9 qw1121 ok_X5_append ⟨Nat.le_of_ble_eq_true rfl, Nat.le_of_ble_eq_true rfl⟩) ⟨PM.blind, va_recv hK hq.1 (ci := 6) (q0 := 0) rfl rfl, fun U hU hW => ⟨rfl, by rw [hU]; exact (hC.at hS hZ).warm hW, by rw [hU], by rw [hU]; exact hq.1, ⟨hq.2.1, fun _ _ h9 => Or.inl (in_map (L := ML A) rfl h9)⟩, fun q hq => hZ q (hsr q hq)⟩⟩ rfl rfl hl.1 rfl (lv_room (Nat.le_of_ble_eq_true rfl)) dL_law_716 ⟨by show cells + 6 + 0 ≤ 601024; omega, by show slots + 81 + 0 ≤ 7293034; omega⟩) hS hsr (fun H locs hP1 hD1 hS _ hk1 => ?_)
  obtain ⟨hP, hD⟩ := frm (L := ML A) (wr := OUT t o b9.1 :: b9.2) (ws := MW A t μ) (ws1 := MW A t m') rfl hPD.1 hPD.2 hsr hk1 hP1 hD1
  refine W.widen (k := cells + 6) (n := slots + 81) (Nat.le_refl _) (Nat.le_refl _) ?_
  refine lv_istore (lv' := (6, .int v') :: (5, .int (nI th)) :: [(4, .int (nI i)), (0, .ref b), (1, .ref x0), (2, .ref (A 0)), (3, .ref o)]) hx hb dL_law_719 hl (by decide) rfl (fun ls hl => ?_)
  refine lv_aload_n hx hb dL_law_721 rfl (lv_at hl 5 rfl) ?_
  have hq := pd_sub (List.sublist_append_right (OUT t o b9.1 :: b9.2) (MW A t m')) hP hD
  refine call_R (va_runV (As := []) (rest := []) ⟨hx, hb, hml, hown, hts⟩ (c_X5_thrown l s.heap.size D t A m' (m_thrown m') rfl) (kV hts qw1000 qw1001 qw1002 qw9 qw1003 ok_X5_thrown ⟨Nat.le_of_ble_eq_true rfl, Nat.le_of_ble_eq_true rfl⟩) ⟨PR.blind, va_recv hK hq.1 (ci := 6) (q0 := 0) rfl rfl, fun U hU hW => ⟨rfl, by rw [hU]; exact (hC.at hS hZ).warm hW, by rw [hU]; exact hq.1⟩⟩ rfl rfl hl.1 rfl (lv_room (Nat.le_of_ble_eq_true rfl)) dL_law_722 ⟨by show cells + 6 + 0 ≤ 601024; omega, by show slots + 81 + 0 ≤ 7293034; omega⟩) ?_
  refine lv_iload hx hb dL_law_725 (lv_at hl 1 rfl) ?_
  refine lv_icmp_eq (tgt := 732) hx hb dL_law_727 (by decide) (fun hc => ?_) (fun hc => absurd e1 hc)
  refine lv_iload hx hb dL_law_732 (lv_at hl 1 rfl) ?_
  refine lv_if_ne (tgt := 749) hx hb dL_law_734 (by decide) (fun hc => (lv_goto (tgt := 1560) hx hb dL_law_749 (by decide) (kk ls H locs ⟨b9.1, b9.2, m', lv_sub hl [2, 3, 4, 5, 6] rfl, hP, hD, hS, hR1.2⟩))) (fun hc => ?_)
  have hth : th = 0 := by
    have : nI th = nI 0 := hc
    rwa [nI_eq (by omega) (by decide)] at this
  refine lv_aload_n hx hb dL_law_737 rfl (lv_at hl 6 rfl) ?_
  refine lv_iconst (v := nI 0) hx hb dL_law_738 (by decide) ?_
  refine va_lald hx hb hK hP 0 6 rfl rfl vin01 dL_law_739 ?_
  refine lv_iload hx hb dL_law_740 (lv_at hl 0 rfl) ?_
  refine lv_i2l hx hb dL_law_742 rfl ?_
  refine W.lcmp hx hb dL_law_743 ?_
  refine lv_if_eq (tgt := 749) hx hb dL_law_744 (by decide) (fun hc => (lv_goto (tgt := 1560) hx hb dL_law_749 (by decide) (kk ls H locs ⟨b9.1, b9.2, m', lv_sub hl [2, 3, 4, 5, 6] rfl, hP, hD, hS, hR1.2⟩))) (fun hc => absurd ?_ hc)
  have h0 : b9.1 (nI 0).toNatClampNeg = v'.toInt64 := by rw [e3 hth]; exact hR1.1 hth
  show lg_cmp (b9.1 (nI 0).toNatClampNeg) v'.toInt64 = 0
  rw [h0]
  exact (lg_cmp_eq _ _).mpr rfl
set_option maxHeartbeats 4000000 in
theorem k_load {p : Program} {l : Launch} {e : Env} {s : State} {m : MethodId} {below : List Frame} {meth : Method} {c : Code} {b L : Nat} {xs : Nat → Int32} {Q : State → Prop} {D : va_G} {t : Nat → ClassId} {x0 o : Nat} {A : Nat → Nat} (C0 : lw_At p s m meth c b L xs) (hC : CTX s.heap.size D t s s.heap) (hN : NC s) (hl9 : l.stackTraces = false) {i : Nat} (hi : i + 4 ≤ L) (hL : L ≤ 2048) {H : Heap} {locs : List Loc} {ls : Array Slot} (hI : LINV D t s b x0 o A (nI i) ls H locs) {cells slots : Nat} (hc1 : cells + 6 ≤ 601024) (hc2 : slots + 81 ≤ 7293034) (kk : ∀ ls H locs, LINV D t s b x0 o A (nI i) ls H locs → W p l e room_1 s m #[Value.ref b] below meth c H locs (cells + 6) (slots + 81) Q (F0 m 1560 ls [])) : W p l e room_1 s m #[Value.ref b] below meth c H locs cells slots Q (F0 m 778 ls []) := by
  obtain ⟨hx, hb, hr, hml, hown, hts0, hX, hbl, hlocks, hgv⟩ := C0
  have hts : ∀ w ∈ LA, w.before _ s = true := fun w hw => hts0 w (LA_tbl w hw)
  obtain ⟨f, w, μ, hl, hP, hD, hS, hw⟩ := hI
  have hK := hC.1
  have hZ : ∀ q, OA [] s.heap.size q → s.heap.size ≤ q := fun q h => h.elim (fun z => nomatch z) id
  have hbA : ¬ OA [] s.heap.size b := fun z => absurd hbl (Nat.not_lt.mpr (hZ b z))
  refine lv_aload_n hx hb dL_law_778 rfl (lv_at hl 2 rfl) ?_
  refine lv_aload_n hx hb dL_law_779 rfl (lv_at hl 4 rfl) ?_
  obtain ⟨v, v', th, m', e1, e2, e3, hM, hX2⟩ := op_load l hl9 s.heap.size D t x0 hw
  have hSz : s.heap.size ≤ H.size := hS.1
  have hPD := pd_perm (List.perm_append_comm (l₁ := OUT t o f :: w) (l₂ := MW A t μ)) hP hD
  have hq := pd_sub (List.sublist_append_right (MW A t μ) (OUT t o f :: w)) hPD.1 hPD.2
  have hsr := sz_in (L := o :: w.map Prod.fst) hq.2 rfl hSz
  refine call_Q (vx_runSW (As := [.ref x0, .ref o]) (rest := []) ⟨hx, hb, hml, hown, hts⟩ (h_load l s.heap.size D t x0 o f (XR_h0 hw) e2 hX2 H.size) (kH hts qw878 qw879 qw0 qw880 okL_load ⟨Nat.le_of_ble_eq_true rfl, Nat.le_of_ble_eq_true rfl⟩) ⟨PMH.blind, fun U hU hW => ⟨rfl, ⟨by rw [hU]; exact (hC.at hS hZ).warm hW, hN.moved hW.alike⟩, by rw [hU], by rw [hU]; exact hq.1, ⟨hq.2.1, fun _ _ h9 => Or.inl (in_map (L := o :: w.map Prod.fst) rfl h9)⟩, fun q hq => hZ q (hsr q hq)⟩⟩ rfl rfl hl.1 rfl (lv_room (Nat.le_of_ble_eq_true rfl)) dL_law_780 ⟨by show cells + 5 ≤ 601024; omega, by show slots + 70 ≤ 7293034; omega⟩) hS hsr (fun b9 H1 locs1 hR1 hP1 hD1 hS _ hk1 => ?_)
  obtain ⟨hP, hD⟩ := frm (wr := MW A t μ) (ws := OUT t o f :: w) (ws1 := OUT t o b9.1 :: b9.2) rfl hPD.1 hPD.2 hsr hk1 hP1 hD1
  refine W.widen (k := cells + 6) (n := slots + 81) (by show cells + 5 ≤ _; omega) (by show slots + 70 ≤ _; omega) ?_
  refine lv_istore (lv' := (5, .int (nI th)) :: [(4, .int (nI i)), (0, .ref b), (1, .ref x0), (2, .ref (A 0)), (3, .ref o)]) hx hb dL_law_783 hl (by decide) rfl (fun ls hl => ?_)
  refine lv_aload_n hx hb dL_law_785 rfl (lv_at hl 4 rfl) ?_
  have hSz : s.heap.size ≤ H1.size := hS.1
  have hPD := pd_perm (List.perm_append_comm (l₁ := MW A t μ) (l₂ := OUT t o b9.1 :: b9.2)) hP hD
  have hq := pd_sub (List.sublist_append_right (OUT t o b9.1 :: b9.2) (MW A t μ)) hPD.1 hPD.2
  have hsr := sz_in (L := ML A) hq.2 rfl hSz
  refine call_M (va_runV (As := []) (rest := []) ⟨hx, hb, hml, hown, hts⟩ (hM A H1.size) (kV hts qw1134 qw1135 qw1136 qw9 qw1137 ok_X5_load ⟨Nat.le_of_ble_eq_true rfl, Nat.le_of_ble_eq_true rfl⟩) ⟨PM.blind, va_recv hK hq.1 (ci := 6) (q0 := 0) rfl rfl, fun U hU hW => ⟨rfl, by rw [hU]; exact (hC.at hS hZ).warm hW, by rw [hU], by rw [hU]; exact hq.1, ⟨hq.2.1, fun _ _ h9 => Or.inl (in_map (L := ML A) rfl h9)⟩, fun q hq => hZ q (hsr q hq)⟩⟩ rfl rfl hl.1 rfl (lv_room (Nat.le_of_ble_eq_true rfl)) dL_law_786 ⟨by show cells + 6 + 0 ≤ 601024; omega, by show slots + 81 + 0 ≤ 7293034; omega⟩) hS hsr (fun H locs hP1 hD1 hS _ hk1 => ?_)
  obtain ⟨hP, hD⟩ := frm (L := ML A) (wr := OUT t o b9.1 :: b9.2) (ws := MW A t μ) (ws1 := MW A t m') rfl hPD.1 hPD.2 hsr hk1 hP1 hD1
  refine W.widen (k := cells + 6) (n := slots + 81) (Nat.le_refl _) (Nat.le_refl _) ?_
  refine lv_istore (lv' := (6, .int v') :: (5, .int (nI th)) :: [(4, .int (nI i)), (0, .ref b), (1, .ref x0), (2, .ref (A 0)), (3, .ref o)]) hx hb dL_law_789 hl (by decide) rfl (fun ls hl => ?_)
  refine lv_aload_n hx hb dL_law_791 rfl (lv_at hl 5 rfl) ?_
  have hq := pd_sub (List.sublist_append_right (OUT t o b9.1 :: b9.2) (MW A t m')) hP hD
  refine call_R (va_runV (As := []) (rest := []) ⟨hx, hb, hml, hown, hts⟩ (c_X5_thrown l s.heap.size D t A m' (m_thrown m') rfl) (kV hts qw1000 qw1001 qw1002 qw9 qw1003 ok_X5_thrown ⟨Nat.le_of_ble_eq_true rfl, Nat.le_of_ble_eq_true rfl⟩) ⟨PR.blind, va_recv hK hq.1 (ci := 6) (q0 := 0) rfl rfl, fun U hU hW => ⟨rfl, by rw [hU]; exact (hC.at hS hZ).warm hW, by rw [hU]; exact hq.1⟩⟩ rfl rfl hl.1 rfl (lv_room (Nat.le_of_ble_eq_true rfl)) dL_law_792 ⟨by show cells + 6 + 0 ≤ 601024; omega, by show slots + 81 + 0 ≤ 7293034; omega⟩) ?_
  refine lv_iload hx hb dL_law_795 (lv_at hl 1 rfl) ?_
  refine lv_icmp_eq (tgt := 802) hx hb dL_law_797 (by decide) (fun hc => ?_) (fun hc => absurd e1 hc)
  refine lv_iload hx hb dL_law_802 (lv_at hl 1 rfl) ?_
  refine lv_if_ne (tgt := 819) hx hb dL_law_804 (by decide) (fun hc => (lv_goto (tgt := 1560) hx hb dL_law_819 (by decide) (kk ls H locs ⟨b9.1, b9.2, m', lv_sub hl [2, 3, 4, 5, 6] rfl, hP, hD, hS, hR1.2⟩))) (fun hc => ?_)
  have hth : th = 0 := by
    have : nI th = nI 0 := hc
    rwa [nI_eq (by omega) (by decide)] at this
  refine lv_aload_n hx hb dL_law_807 rfl (lv_at hl 6 rfl) ?_
  refine lv_iconst (v := nI 0) hx hb dL_law_808 (by decide) ?_
  refine va_lald hx hb hK hP 0 6 rfl rfl vin01 dL_law_809 ?_
  refine lv_iload hx hb dL_law_810 (lv_at hl 0 rfl) ?_
  refine lv_i2l hx hb dL_law_812 rfl ?_
  refine W.lcmp hx hb dL_law_813 ?_
  refine lv_if_eq (tgt := 819) hx hb dL_law_814 (by decide) (fun hc => (lv_goto (tgt := 1560) hx hb dL_law_819 (by decide) (kk ls H locs ⟨b9.1, b9.2, m', lv_sub hl [2, 3, 4, 5, 6] rfl, hP, hD, hS, hR1.2⟩))) (fun hc => absurd ?_ hc)
  have h0 : b9.1 (nI 0).toNatClampNeg = v'.toInt64 := by rw [e3 hth]; exact hR1.1 hth
  show lg_cmp (b9.1 (nI 0).toNatClampNeg) v'.toInt64 = 0
  rw [h0]
  exact (lg_cmp_eq _ _).mpr rfl
set_option maxHeartbeats 4000000 in
theorem k_keep {p : Program} {l : Launch} {e : Env} {s : State} {m : MethodId} {below : List Frame} {meth : Method} {c : Code} {b L : Nat} {xs : Nat → Int32} {Q : State → Prop} {D : va_G} {t : Nat → ClassId} {x0 o : Nat} {A : Nat → Nat} (C0 : lw_At p s m meth c b L xs) (hC : CTX s.heap.size D t s s.heap) (hN : NC s) (hl9 : l.stackTraces = false) {i : Nat} (hi : i + 4 ≤ L) (hL : L ≤ 2048) {H : Heap} {locs : List Loc} {ls : Array Slot} (hI : LINV D t s b x0 o A (nI i) ls H locs) {cells slots : Nat} (hc1 : cells + 6 ≤ 601024) (hc2 : slots + 81 ≤ 7293034) (kk : ∀ ls H locs, LINV D t s b x0 o A (nI i) ls H locs → W p l e room_1 s m #[Value.ref b] below meth c H locs (cells + 6) (slots + 81) Q (F0 m 1560 ls [])) : W p l e room_1 s m #[Value.ref b] below meth c H locs cells slots Q (F0 m 822 ls []) := by
  obtain ⟨hx, hb, hr, hml, hown, hts0, hX, hbl, hlocks, hgv⟩ := C0
  have hts : ∀ w ∈ LA, w.before _ s = true := fun w hw => hts0 w (LA_tbl w hw)
  obtain ⟨f, w, μ, hl, hP, hD, hS, hw⟩ := hI
  have hK := hC.1
  have hZ : ∀ q, OA [] s.heap.size q → s.heap.size ≤ q := fun q h => h.elim (fun z => nomatch z) id
  have hbA : ¬ OA [] s.heap.size b := fun z => absurd hbl (Nat.not_lt.mpr (hZ b z))
  refine lv_aload_n hx hb dL_law_822 rfl (lv_at hl 2 rfl) ?_
  refine lv_aload_n hx hb dL_law_823 rfl (lv_at hl 1 rfl) ?_
  refine lv_iload hx hb dL_law_824 (lv_at hl 0 rfl) ?_
  refine lv_iconst (v := nI 1) hx hb dL_law_826 (by decide) ?_
  refine lv_iadd hx hb dL_law_827 ?_
  refine topI (nI_add i 1).symm ?_
  refine va_sld hx hb hX hbl hbA hS (vin_at (k := 1) (by omega) hL) dL_law_828 ?_
  refine lv_aload_n hx hb dL_law_829 rfl (lv_at hl 4 rfl) ?_
  obtain ⟨v, v', th, m', e1, e2, e3, hM, hX2⟩ := op_keep l hl9 s.heap.size D t x0 hw (xs (nI (i + 1)).toNatClampNeg)
  have hSz : s.heap.size ≤ H.size := hS.1
  have hPD := pd_perm (List.perm_append_comm (l₁ := OUT t o f :: w) (l₂ := MW A t μ)) hP hD
  have hq := pd_sub (List.sublist_append_right (MW A t μ) (OUT t o f :: w)) hPD.1 hPD.2
  have hsr := sz_in (L := o :: w.map Prod.fst) hq.2 rfl hSz
  refine call_Q (vx_runSW (As := [.ref x0, .int (xs (nI (i + 1)).toNatClampNeg), .ref o]) (rest := []) ⟨hx, hb, hml, hown, hts⟩ (h_keep l s.heap.size D t x0 o f (xs (nI (i + 1)).toNatClampNeg) (XR_h0 hw) e2 hX2 H.size) (kH hts qw890 qw891 qw0 qw892 okL_keep ⟨Nat.le_of_ble_eq_true rfl, Nat.le_of_ble_eq_true rfl⟩) ⟨PMH.blind, fun U hU hW => ⟨rfl, ⟨by rw [hU]; exact (hC.at hS hZ).warm hW, hN.moved hW.alike⟩, by rw [hU], by rw [hU]; exact hq.1, ⟨hq.2.1, fun _ _ h9 => Or.inl (in_map (L := o :: w.map Prod.fst) rfl h9)⟩, fun q hq => hZ q (hsr q hq)⟩⟩ rfl rfl hl.1 rfl (lv_room (Nat.le_of_ble_eq_true rfl)) dL_law_830 ⟨by show cells + 5 ≤ 601024; omega, by show slots + 70 ≤ 7293034; omega⟩) hS hsr (fun b9 H1 locs1 hR1 hP1 hD1 hS _ hk1 => ?_)
  obtain ⟨hP, hD⟩ := frm (wr := MW A t μ) (ws := OUT t o f :: w) (ws1 := OUT t o b9.1 :: b9.2) rfl hPD.1 hPD.2 hsr hk1 hP1 hD1
  refine W.widen (k := cells + 6) (n := slots + 81) (by show cells + 5 ≤ _; omega) (by show slots + 70 ≤ _; omega) ?_
  refine lv_istore (lv' := (5, .int (nI th)) :: [(4, .int (nI i)), (0, .ref b), (1, .ref x0), (2, .ref (A 0)), (3, .ref o)]) hx hb dL_law_833 hl (by decide) rfl (fun ls hl => ?_)
  refine lv_aload_n hx hb dL_law_835 rfl (lv_at hl 4 rfl) ?_
  refine lv_aload_n hx hb dL_law_836 rfl (lv_at hl 2 rfl) ?_
  refine lv_iload hx hb dL_law_837 (lv_at hl 1 rfl) ?_
  refine lv_iconst (v := nI 1) hx hb dL_law_839 (by decide) ?_
  refine lv_iadd hx hb dL_law_840 ?_
  refine topI (nI_add i 1).symm ?_
  refine va_sld hx hb hX hbl hbA hS (vin_at (k := 1) (by omega) hL) dL_law_841 ?_
  have hSz : s.heap.size ≤ H1.size := hS.1
  have hPD := pd_perm (List.perm_append_comm (l₁ := MW A t μ) (l₂ := OUT t o b9.1 :: b9.2)) hP hD
  have hq := pd_sub (List.sublist_append_right (OUT t o b9.1 :: b9.2) (MW A t μ)) hPD.1 hPD.2
  have hsr := sz_in (L := ML A) hq.2 rfl hSz
  refine call_M (va_runV (As := [.int (xs (nI (i + 1)).toNatClampNeg)]) (rest := []) ⟨hx, hb, hml, hown, hts⟩ (hM A H1.size) (kV hts qw1142 qw1143 qw1144 qw9 qw1145 ok_X5_keep ⟨Nat.le_of_ble_eq_true rfl, Nat.le_of_ble_eq_true rfl⟩) ⟨PM.blind, va_recv hK hq.1 (ci := 6) (q0 := 0) rfl rfl, fun U hU hW => ⟨rfl, by rw [hU]; exact (hC.at hS hZ).warm hW, by rw [hU], by rw [hU]; exact hq.1, ⟨hq.2.1, fun _ _ h9 => Or.inl (in_map (L := ML A) rfl h9)⟩, fun q hq => hZ q (hsr q hq)⟩⟩ rfl rfl hl.1 rfl (lv_room (Nat.le_of_ble_eq_true rfl)) dL_law_842 ⟨by show cells + 6 + 0 ≤ 601024; omega, by show slots + 81 + 0 ≤ 7293034; omega⟩) hS hsr (fun H locs hP1 hD1 hS _ hk1 => ?_)
  obtain ⟨hP, hD⟩ := frm (L := ML A) (wr := OUT t o b9.1 :: b9.2) (ws := MW A t μ) (ws1 := MW A t m') rfl hPD.1 hPD.2 hsr hk1 hP1 hD1
  refine W.widen (k := cells + 6) (n := slots + 81) (Nat.le_refl _) (Nat.le_refl _) ?_
  refine lv_istore (lv' := (6, .int v') :: (5, .int (nI th)) :: [(4, .int (nI i)), (0, .ref b), (1, .ref x0), (2, .ref (A 0)), (3, .ref o)]) hx hb dL_law_845 hl (by decide) rfl (fun ls hl => ?_)
  refine lv_aload_n hx hb dL_law_847 rfl (lv_at hl 5 rfl) ?_
  have hq := pd_sub (List.sublist_append_right (OUT t o b9.1 :: b9.2) (MW A t m')) hP hD
  refine call_R (va_runV (As := []) (rest := []) ⟨hx, hb, hml, hown, hts⟩ (c_X5_thrown l s.heap.size D t A m' (m_thrown m') rfl) (kV hts qw1000 qw1001 qw1002 qw9 qw1003 ok_X5_thrown ⟨Nat.le_of_ble_eq_true rfl, Nat.le_of_ble_eq_true rfl⟩) ⟨PR.blind, va_recv hK hq.1 (ci := 6) (q0 := 0) rfl rfl, fun U hU hW => ⟨rfl, by rw [hU]; exact (hC.at hS hZ).warm hW, by rw [hU]; exact hq.1⟩⟩ rfl rfl hl.1 rfl (lv_room (Nat.le_of_ble_eq_true rfl)) dL_law_848 ⟨by show cells + 6 + 0 ≤ 601024; omega, by show slots + 81 + 0 ≤ 7293034; omega⟩) ?_
  refine lv_iload hx hb dL_law_851 (lv_at hl 1 rfl) ?_
  refine lv_icmp_eq (tgt := 858) hx hb dL_law_853 (by decide) (fun hc => ?_) (fun hc => absurd e1 hc)
  refine lv_iload hx hb dL_law_858 (lv_at hl 1 rfl) ?_
  refine lv_if_ne (tgt := 875) hx hb dL_law_860 (by decide) (fun hc => (lv_goto (tgt := 1560) hx hb dL_law_875 (by decide) (kk ls H locs ⟨b9.1, b9.2, m', lv_sub hl [2, 3, 4, 5, 6] rfl, hP, hD, hS, hR1.2⟩))) (fun hc => ?_)
  have hth : th = 0 := by
    have : nI th = nI 0 := hc
    rwa [nI_eq (by omega) (by decide)] at this
  refine lv_aload_n hx hb dL_law_863 rfl (lv_at hl 6 rfl) ?_
  refine lv_iconst (v := nI 0) hx hb dL_law_864 (by decide) ?_
  refine va_lald hx hb hK hP 0 6 rfl rfl vin01 dL_law_865 ?_
  refine lv_iload hx hb dL_law_866 (lv_at hl 0 rfl) ?_
  refine lv_i2l hx hb dL_law_868 rfl ?_
  refine W.lcmp hx hb dL_law_869 ?_
  refine lv_if_eq (tgt := 875) hx hb dL_law_870 (by decide) (fun hc => (lv_goto (tgt := 1560) hx hb dL_law_875 (by decide) (kk ls H locs ⟨b9.1, b9.2, m', lv_sub hl [2, 3, 4, 5, 6] rfl, hP, hD, hS, hR1.2⟩))) (fun hc => absurd ?_ hc)
  have h0 : b9.1 (nI 0).toNatClampNeg = v'.toInt64 := by rw [e3 hth]; exact hR1.1 hth
  show lg_cmp (b9.1 (nI 0).toNatClampNeg) v'.toInt64 = 0
  rw [h0]
  exact (lg_cmp_eq _ _).mpr rfl
set_option maxHeartbeats 4000000 in
theorem k_goBack {p : Program} {l : Launch} {e : Env} {s : State} {m : MethodId} {below : List Frame} {meth : Method} {c : Code} {b L : Nat} {xs : Nat → Int32} {Q : State → Prop} {D : va_G} {t : Nat → ClassId} {x0 o : Nat} {A : Nat → Nat} (C0 : lw_At p s m meth c b L xs) (hC : CTX s.heap.size D t s s.heap) (hN : NC s) (hl9 : l.stackTraces = false) {i : Nat} (hi : i + 4 ≤ L) (hL : L ≤ 2048) {H : Heap} {locs : List Loc} {ls : Array Slot} (hI : LINV D t s b x0 o A (nI i) ls H locs) {cells slots : Nat} (hc1 : cells + 6 ≤ 601024) (hc2 : slots + 81 ≤ 7293034) (kk : ∀ ls H locs, LINV D t s b x0 o A (nI i) ls H locs → W p l e room_1 s m #[Value.ref b] below meth c H locs (cells + 6) (slots + 81) Q (F0 m 1560 ls [])) : W p l e room_1 s m #[Value.ref b] below meth c H locs cells slots Q (F0 m 878 ls []) := by
  obtain ⟨hx, hb, hr, hml, hown, hts0, hX, hbl, hlocks, hgv⟩ := C0
  have hts : ∀ w ∈ LA, w.before _ s = true := fun w hw => hts0 w (LA_tbl w hw)
  obtain ⟨f, w, μ, hl, hP, hD, hS, hw⟩ := hI
  have hK := hC.1
  have hZ : ∀ q, OA [] s.heap.size q → s.heap.size ≤ q := fun q h => h.elim (fun z => nomatch z) id
  have hbA : ¬ OA [] s.heap.size b := fun z => absurd hbl (Nat.not_lt.mpr (hZ b z))
  refine lv_aload_n hx hb dL_law_878 rfl (lv_at hl 2 rfl) ?_
  refine lv_aload_n hx hb dL_law_879 rfl (lv_at hl 1 rfl) ?_
  refine lv_iload hx hb dL_law_880 (lv_at hl 0 rfl) ?_
  refine lv_iconst (v := nI 1) hx hb dL_law_882 (by decide) ?_
  refine lv_iadd hx hb dL_law_883 ?_
  refine topI (nI_add i 1).symm ?_
  refine va_sld hx hb hX hbl hbA hS (vin_at (k := 1) (by omega) hL) dL_law_884 ?_
  refine lv_aload_n hx hb dL_law_885 rfl (lv_at hl 4 rfl) ?_
  obtain ⟨v, v', th, m', e1, e2, e3, hM, hX2⟩ := op_goBack l hl9 s.heap.size D t x0 hw (xs (nI (i + 1)).toNatClampNeg)
  have hSz : s.heap.size ≤ H.size := hS.1
  have hPD := pd_perm (List.perm_append_comm (l₁ := OUT t o f :: w) (l₂ := MW A t μ)) hP hD
  have hq := pd_sub (List.sublist_append_right (MW A t μ) (OUT t o f :: w)) hPD.1 hPD.2
  have hsr := sz_in (L := o :: w.map Prod.fst) hq.2 rfl hSz
  refine call_Q (vx_runSW (As := [.ref x0, .int (xs (nI (i + 1)).toNatClampNeg), .ref o]) (rest := []) ⟨hx, hb, hml, hown, hts⟩ (h_goBack l s.heap.size D t x0 o f (xs (nI (i + 1)).toNatClampNeg) (XR_h0 hw) e2 hX2 H.size) (kH hts qw902 qw903 qw0 qw904 okL_goBack ⟨Nat.le_of_ble_eq_true rfl, Nat.le_of_ble_eq_true rfl⟩) ⟨PMH.blind, fun U hU hW => ⟨rfl, ⟨by rw [hU]; exact (hC.at hS hZ).warm hW, hN.moved hW.alike⟩, by rw [hU], by rw [hU]; exact hq.1, ⟨hq.2.1, fun _ _ h9 => Or.inl (in_map (L := o :: w.map Prod.fst) rfl h9)⟩, fun q hq => hZ q (hsr q hq)⟩⟩ rfl rfl hl.1 rfl (lv_room (Nat.le_of_ble_eq_true rfl)) dL_law_886 ⟨by show cells + 5 ≤ 601024; omega, by show slots + 70 ≤ 7293034; omega⟩) hS hsr (fun b9 H1 locs1 hR1 hP1 hD1 hS _ hk1 => ?_)
  obtain ⟨hP, hD⟩ := frm (wr := MW A t μ) (ws := OUT t o f :: w) (ws1 := OUT t o b9.1 :: b9.2) rfl hPD.1 hPD.2 hsr hk1 hP1 hD1
  refine W.widen (k := cells + 6) (n := slots + 81) (by show cells + 5 ≤ _; omega) (by show slots + 70 ≤ _; omega) ?_
  refine lv_istore (lv' := (5, .int (nI th)) :: [(4, .int (nI i)), (0, .ref b), (1, .ref x0), (2, .ref (A 0)), (3, .ref o)]) hx hb dL_law_889 hl (by decide) rfl (fun ls hl => ?_)
  refine lv_aload_n hx hb dL_law_891 rfl (lv_at hl 4 rfl) ?_
  refine lv_aload_n hx hb dL_law_892 rfl (lv_at hl 2 rfl) ?_
  refine lv_iload hx hb dL_law_893 (lv_at hl 1 rfl) ?_
  refine lv_iconst (v := nI 1) hx hb dL_law_895 (by decide) ?_
  refine lv_iadd hx hb dL_law_896 ?_
  refine topI (nI_add i 1).symm ?_
  refine va_sld hx hb hX hbl hbA hS (vin_at (k := 1) (by omega) hL) dL_law_897 ?_
  have hSz : s.heap.size ≤ H1.size := hS.1
  have hPD := pd_perm (List.perm_append_comm (l₁ := MW A t μ) (l₂ := OUT t o b9.1 :: b9.2)) hP hD
  have hq := pd_sub (List.sublist_append_right (OUT t o b9.1 :: b9.2) (MW A t μ)) hPD.1 hPD.2
  have hsr := sz_in (L := ML A) hq.2 rfl hSz
  refine call_M (va_runV (As := [.int (xs (nI (i + 1)).toNatClampNeg)]) (rest := []) ⟨hx, hb, hml, hown, hts⟩ (hM A H1.size) (kV hts qw1146 qw1147 qw1148 qw9 qw1149 ok_X5_goBack ⟨Nat.le_of_ble_eq_true rfl, Nat.le_of_ble_eq_true rfl⟩) ⟨PM.blind, va_recv hK hq.1 (ci := 6) (q0 := 0) rfl rfl, fun U hU hW => ⟨rfl, by rw [hU]; exact (hC.at hS hZ).warm hW, by rw [hU], by rw [hU]; exact hq.1, ⟨hq.2.1, fun _ _ h9 => Or.inl (in_map (L := ML A) rfl h9)⟩, fun q hq => hZ q (hsr q hq)⟩⟩ rfl rfl hl.1 rfl (lv_room (Nat.le_of_ble_eq_true rfl)) dL_law_898 ⟨by show cells + 6 + 0 ≤ 601024; omega, by show slots + 81 + 0 ≤ 7293034; omega⟩) hS hsr (fun H locs hP1 hD1 hS _ hk1 => ?_)
  obtain ⟨hP, hD⟩ := frm (L := ML A) (wr := OUT t o b9.1 :: b9.2) (ws := MW A t μ) (ws1 := MW A t m') rfl hPD.1 hPD.2 hsr hk1 hP1 hD1
  refine W.widen (k := cells + 6) (n := slots + 81) (Nat.le_refl _) (Nat.le_refl _) ?_
  refine lv_istore (lv' := (6, .int v') :: (5, .int (nI th)) :: [(4, .int (nI i)), (0, .ref b), (1, .ref x0), (2, .ref (A 0)), (3, .ref o)]) hx hb dL_law_901 hl (by decide) rfl (fun ls hl => ?_)
  refine lv_aload_n hx hb dL_law_903 rfl (lv_at hl 5 rfl) ?_
  have hq := pd_sub (List.sublist_append_right (OUT t o b9.1 :: b9.2) (MW A t m')) hP hD
  refine call_R (va_runV (As := []) (rest := []) ⟨hx, hb, hml, hown, hts⟩ (c_X5_thrown l s.heap.size D t A m' (m_thrown m') rfl) (kV hts qw1000 qw1001 qw1002 qw9 qw1003 ok_X5_thrown ⟨Nat.le_of_ble_eq_true rfl, Nat.le_of_ble_eq_true rfl⟩) ⟨PR.blind, va_recv hK hq.1 (ci := 6) (q0 := 0) rfl rfl, fun U hU hW => ⟨rfl, by rw [hU]; exact (hC.at hS hZ).warm hW, by rw [hU]; exact hq.1⟩⟩ rfl rfl hl.1 rfl (lv_room (Nat.le_of_ble_eq_true rfl)) dL_law_904 ⟨by show cells + 6 + 0 ≤ 601024; omega, by show slots + 81 + 0 ≤ 7293034; omega⟩) ?_
  refine lv_iload hx hb dL_law_907 (lv_at hl 1 rfl) ?_
  refine lv_icmp_eq (tgt := 914) hx hb dL_law_909 (by decide) (fun hc => ?_) (fun hc => absurd e1 hc)
  refine lv_iload hx hb dL_law_914 (lv_at hl 1 rfl) ?_
  refine lv_if_ne (tgt := 931) hx hb dL_law_916 (by decide) (fun hc => (lv_goto (tgt := 1560) hx hb dL_law_931 (by decide) (kk ls H locs ⟨b9.1, b9.2, m', lv_sub hl [2, 3, 4, 5, 6] rfl, hP, hD, hS, hR1.2⟩))) (fun hc => ?_)
  have hth : th = 0 := by
    have : nI th = nI 0 := hc
    rwa [nI_eq (by omega) (by decide)] at this
  refine lv_aload_n hx hb dL_law_919 rfl (lv_at hl 6 rfl) ?_
  refine lv_iconst (v := nI 0) hx hb dL_law_920 (by decide) ?_
  refine va_lald hx hb hK hP 0 6 rfl rfl vin01 dL_law_921 ?_
  refine lv_iload hx hb dL_law_922 (lv_at hl 0 rfl) ?_
  refine lv_i2l hx hb dL_law_924 rfl ?_
  refine W.lcmp hx hb dL_law_925 ?_
  refine lv_if_eq (tgt := 931) hx hb dL_law_926 (by decide) (fun hc => (lv_goto (tgt := 1560) hx hb dL_law_931 (by decide) (kk ls H locs ⟨b9.1, b9.2, m', lv_sub hl [2, 3, 4, 5, 6] rfl, hP, hD, hS, hR1.2⟩))) (fun hc => absurd ?_ hc)
  have h0 : b9.1 (nI 0).toNatClampNeg = v'.toInt64 := by rw [e3 hth]; exact hR1.1 hth
  show lg_cmp (b9.1 (nI 0).toNatClampNeg) v'.toInt64 = 0
  rw [h0]
  exact (lg_cmp_eq _ _).mpr rfl
set_option maxHeartbeats 4000000 in
theorem k_undo {p : Program} {l : Launch} {e : Env} {s : State} {m : MethodId} {below : List Frame} {meth : Method} {c : Code} {b L : Nat} {xs : Nat → Int32} {Q : State → Prop} {D : va_G} {t : Nat → ClassId} {x0 o : Nat} {A : Nat → Nat} (C0 : lw_At p s m meth c b L xs) (hC : CTX s.heap.size D t s s.heap) (hN : NC s) (hl9 : l.stackTraces = false) {i : Nat} (hi : i + 4 ≤ L) (hL : L ≤ 2048) {H : Heap} {locs : List Loc} {ls : Array Slot} (hI : LINV D t s b x0 o A (nI i) ls H locs) {cells slots : Nat} (hc1 : cells + 6 ≤ 601024) (hc2 : slots + 81 ≤ 7293034) (kk : ∀ ls H locs, LINV D t s b x0 o A (nI i) ls H locs → W p l e room_1 s m #[Value.ref b] below meth c H locs (cells + 6) (slots + 81) Q (F0 m 1560 ls [])) : W p l e room_1 s m #[Value.ref b] below meth c H locs cells slots Q (F0 m 934 ls []) := by
  obtain ⟨hx, hb, hr, hml, hown, hts0, hX, hbl, hlocks, hgv⟩ := C0
  have hts : ∀ w ∈ LA, w.before _ s = true := fun w hw => hts0 w (LA_tbl w hw)
  obtain ⟨f, w, μ, hl, hP, hD, hS, hw⟩ := hI
  have hK := hC.1
  have hZ : ∀ q, OA [] s.heap.size q → s.heap.size ≤ q := fun q h => h.elim (fun z => nomatch z) id
  have hbA : ¬ OA [] s.heap.size b := fun z => absurd hbl (Nat.not_lt.mpr (hZ b z))
  refine lv_aload_n hx hb dL_law_934 rfl (lv_at hl 2 rfl) ?_
  refine lv_aload_n hx hb dL_law_935 rfl (lv_at hl 4 rfl) ?_
  obtain ⟨v, v', th, m', e1, e2, e3, hM, hX2⟩ := op_undo l hl9 s.heap.size D t x0 hw
  have hSz : s.heap.size ≤ H.size := hS.1
  have hPD := pd_perm (List.perm_append_comm (l₁ := OUT t o f :: w) (l₂ := MW A t μ)) hP hD
  have hq := pd_sub (List.sublist_append_right (MW A t μ) (OUT t o f :: w)) hPD.1 hPD.2
  have hsr := sz_in (L := o :: w.map Prod.fst) hq.2 rfl hSz
  refine call_Q (vx_runSW (As := [.ref x0, .ref o]) (rest := []) ⟨hx, hb, hml, hown, hts⟩ (h_undo l s.heap.size D t x0 o f (XR_h0 hw) e2 hX2 H.size) (kH hts qw910 qw911 qw0 qw912 okL_undo ⟨Nat.le_of_ble_eq_true rfl, Nat.le_of_ble_eq_true rfl⟩) ⟨PMH.blind, fun U hU hW => ⟨rfl, ⟨by rw [hU]; exact (hC.at hS hZ).warm hW, hN.moved hW.alike⟩, by rw [hU], by rw [hU]; exact hq.1, ⟨hq.2.1, fun _ _ h9 => Or.inl (in_map (L := o :: w.map Prod.fst) rfl h9)⟩, fun q hq => hZ q (hsr q hq)⟩⟩ rfl rfl hl.1 rfl (lv_room (Nat.le_of_ble_eq_true rfl)) dL_law_936 ⟨by show cells + 5 ≤ 601024; omega, by show slots + 70 ≤ 7293034; omega⟩) hS hsr (fun b9 H1 locs1 hR1 hP1 hD1 hS _ hk1 => ?_)
  obtain ⟨hP, hD⟩ := frm (wr := MW A t μ) (ws := OUT t o f :: w) (ws1 := OUT t o b9.1 :: b9.2) rfl hPD.1 hPD.2 hsr hk1 hP1 hD1
  refine W.widen (k := cells + 6) (n := slots + 81) (by show cells + 5 ≤ _; omega) (by show slots + 70 ≤ _; omega) ?_
  refine lv_istore (lv' := (5, .int (nI th)) :: [(4, .int (nI i)), (0, .ref b), (1, .ref x0), (2, .ref (A 0)), (3, .ref o)]) hx hb dL_law_939 hl (by decide) rfl (fun ls hl => ?_)
  refine lv_aload_n hx hb dL_law_941 rfl (lv_at hl 4 rfl) ?_
  have hSz : s.heap.size ≤ H1.size := hS.1
  have hPD := pd_perm (List.perm_append_comm (l₁ := MW A t μ) (l₂ := OUT t o b9.1 :: b9.2)) hP hD
  have hq := pd_sub (List.sublist_append_right (OUT t o b9.1 :: b9.2) (MW A t μ)) hPD.1 hPD.2
  have hsr := sz_in (L := ML A) hq.2 rfl hSz
  refine call_M (va_runV (As := []) (rest := []) ⟨hx, hb, hml, hown, hts⟩ (hM A H1.size) (kV hts qw1150 qw1151 qw1152 qw9 qw1153 ok_X5_undo ⟨Nat.le_of_ble_eq_true rfl, Nat.le_of_ble_eq_true rfl⟩) ⟨PM.blind, va_recv hK hq.1 (ci := 6) (q0 := 0) rfl rfl, fun U hU hW => ⟨rfl, by rw [hU]; exact (hC.at hS hZ).warm hW, by rw [hU], by rw [hU]; exact hq.1, ⟨hq.2.1, fun _ _ h9 => Or.inl (in_map (L := ML A) rfl h9)⟩, fun q hq => hZ q (hsr q hq)⟩⟩ rfl rfl hl.1 rfl (lv_room (Nat.le_of_ble_eq_true rfl)) dL_law_942 ⟨by show cells + 6 + 0 ≤ 601024; omega, by show slots + 81 + 0 ≤ 7293034; omega⟩) hS hsr (fun H locs hP1 hD1 hS _ hk1 => ?_)
  obtain ⟨hP, hD⟩ := frm (L := ML A) (wr := OUT t o b9.1 :: b9.2) (ws := MW A t μ) (ws1 := MW A t m') rfl hPD.1 hPD.2 hsr hk1 hP1 hD1
  refine W.widen (k := cells + 6) (n := slots + 81) (Nat.le_refl _) (Nat.le_refl _) ?_
  refine lv_istore (lv' := (6, .int v') :: (5, .int (nI th)) :: [(4, .int (nI i)), (0, .ref b), (1, .ref x0), (2, .ref (A 0)), (3, .ref o)]) hx hb dL_law_945 hl (by decide) rfl (fun ls hl => ?_)
  refine lv_aload_n hx hb dL_law_947 rfl (lv_at hl 5 rfl) ?_
  have hq := pd_sub (List.sublist_append_right (OUT t o b9.1 :: b9.2) (MW A t m')) hP hD
  refine call_R (va_runV (As := []) (rest := []) ⟨hx, hb, hml, hown, hts⟩ (c_X5_thrown l s.heap.size D t A m' (m_thrown m') rfl) (kV hts qw1000 qw1001 qw1002 qw9 qw1003 ok_X5_thrown ⟨Nat.le_of_ble_eq_true rfl, Nat.le_of_ble_eq_true rfl⟩) ⟨PR.blind, va_recv hK hq.1 (ci := 6) (q0 := 0) rfl rfl, fun U hU hW => ⟨rfl, by rw [hU]; exact (hC.at hS hZ).warm hW, by rw [hU]; exact hq.1⟩⟩ rfl rfl hl.1 rfl (lv_room (Nat.le_of_ble_eq_true rfl)) dL_law_948 ⟨by show cells + 6 + 0 ≤ 601024; omega, by show slots + 81 + 0 ≤ 7293034; omega⟩) ?_
  refine lv_iload hx hb dL_law_951 (lv_at hl 1 rfl) ?_
  refine lv_icmp_eq (tgt := 958) hx hb dL_law_953 (by decide) (fun hc => ?_) (fun hc => absurd e1 hc)
  refine lv_iload hx hb dL_law_958 (lv_at hl 1 rfl) ?_
  refine lv_if_ne (tgt := 975) hx hb dL_law_960 (by decide) (fun hc => (lv_goto (tgt := 1560) hx hb dL_law_975 (by decide) (kk ls H locs ⟨b9.1, b9.2, m', lv_sub hl [2, 3, 4, 5, 6] rfl, hP, hD, hS, hR1.2⟩))) (fun hc => ?_)
  have hth : th = 0 := by
    have : nI th = nI 0 := hc
    rwa [nI_eq (by omega) (by decide)] at this
  refine lv_aload_n hx hb dL_law_963 rfl (lv_at hl 6 rfl) ?_
  refine lv_iconst (v := nI 0) hx hb dL_law_964 (by decide) ?_
  refine va_lald hx hb hK hP 0 6 rfl rfl vin01 dL_law_965 ?_
  refine lv_iload hx hb dL_law_966 (lv_at hl 0 rfl) ?_
  refine lv_i2l hx hb dL_law_968 rfl ?_
  refine W.lcmp hx hb dL_law_969 ?_
  refine lv_if_eq (tgt := 975) hx hb dL_law_970 (by decide) (fun hc => (lv_goto (tgt := 1560) hx hb dL_law_975 (by decide) (kk ls H locs ⟨b9.1, b9.2, m', lv_sub hl [2, 3, 4, 5, 6] rfl, hP, hD, hS, hR1.2⟩))) (fun hc => absurd ?_ hc)
  have h0 : b9.1 (nI 0).toNatClampNeg = v'.toInt64 := by rw [e3 hth]; exact hR1.1 hth
  show lg_cmp (b9.1 (nI 0).toNatClampNeg) v'.toInt64 = 0
  rw [h0]
  exact (lg_cmp_eq _ _).mpr rfl
set_option maxHeartbeats 4000000 in
theorem k_cell {p : Program} {l : Launch} {e : Env} {s : State} {m : MethodId} {below : List Frame} {meth : Method} {c : Code} {b L : Nat} {xs : Nat → Int32} {Q : State → Prop} {D : va_G} {t : Nat → ClassId} {x0 o : Nat} {A : Nat → Nat} (C0 : lw_At p s m meth c b L xs) (hC : CTX s.heap.size D t s s.heap) (hN : NC s) (hl9 : l.stackTraces = false) {i : Nat} (hi : i + 4 ≤ L) (hL : L ≤ 2048) {H : Heap} {locs : List Loc} {ls : Array Slot} (hI : LINV D t s b x0 o A (nI i) ls H locs) {cells slots : Nat} (hc1 : cells + 6 ≤ 601024) (hc2 : slots + 81 ≤ 7293034) (kk : ∀ ls H locs, LINV D t s b x0 o A (nI i) ls H locs → W p l e room_1 s m #[Value.ref b] below meth c H locs (cells + 6) (slots + 81) Q (F0 m 1560 ls [])) : W p l e room_1 s m #[Value.ref b] below meth c H locs cells slots Q (F0 m 978 ls []) := by
  obtain ⟨hx, hb, hr, hml, hown, hts0, hX, hbl, hlocks, hgv⟩ := C0
  have hts : ∀ w ∈ LA, w.before _ s = true := fun w hw => hts0 w (LA_tbl w hw)
  obtain ⟨f, w, μ, hl, hP, hD, hS, hw⟩ := hI
  have hK := hC.1
  have hZ : ∀ q, OA [] s.heap.size q → s.heap.size ≤ q := fun q h => h.elim (fun z => nomatch z) id
  have hbA : ¬ OA [] s.heap.size b := fun z => absurd hbl (Nat.not_lt.mpr (hZ b z))
  refine lv_aload_n hx hb dL_law_978 rfl (lv_at hl 2 rfl) ?_
  refine lv_aload_n hx hb dL_law_979 rfl (lv_at hl 1 rfl) ?_
  refine lv_iload hx hb dL_law_980 (lv_at hl 0 rfl) ?_
  refine lv_iconst (v := nI 1) hx hb dL_law_982 (by decide) ?_
  refine lv_iadd hx hb dL_law_983 ?_
  refine topI (nI_add i 1).symm ?_
  refine va_sld hx hb hX hbl hbA hS (vin_at (k := 1) (by omega) hL) dL_law_984 ?_
  refine lv_aload_n hx hb dL_law_985 rfl (lv_at hl 1 rfl) ?_
  refine lv_iload hx hb dL_law_986 (lv_at hl 0 rfl) ?_
  refine lv_iconst (v := nI 2) hx hb dL_law_988 (by decide) ?_
  refine lv_iadd hx hb dL_law_989 ?_
  refine topI (nI_add i 2).symm ?_
  refine va_sld hx hb hX hbl hbA hS (vin_at (k := 2) (by omega) hL) dL_law_990 ?_
  refine lv_aload_n hx hb dL_law_991 rfl (lv_at hl 1 rfl) ?_
  refine lv_iload hx hb dL_law_992 (lv_at hl 0 rfl) ?_
  refine lv_iconst (v := nI 3) hx hb dL_law_994 (by decide) ?_
  refine lv_iadd hx hb dL_law_995 ?_
  refine topI (nI_add i 3).symm ?_
  refine va_sld hx hb hX hbl hbA hS (vin_at (k := 3) (by omega) hL) dL_law_996 ?_
  refine lv_aload_n hx hb dL_law_997 rfl (lv_at hl 4 rfl) ?_
  obtain ⟨v, v', th, m', e1, e2, e3, hM, hX2⟩ := op_cell l hl9 s.heap.size D t x0 hw (xs (nI (i + 1)).toNatClampNeg) (xs (nI (i + 2)).toNatClampNeg) (xs (nI (i + 3)).toNatClampNeg)
  have hSz : s.heap.size ≤ H.size := hS.1
  have hPD := pd_perm (List.perm_append_comm (l₁ := OUT t o f :: w) (l₂ := MW A t μ)) hP hD
  have hq := pd_sub (List.sublist_append_right (MW A t μ) (OUT t o f :: w)) hPD.1 hPD.2
  have hsr := sz_in (L := o :: w.map Prod.fst) hq.2 rfl hSz
  refine call_Q (vx_runSW (As := [.ref x0, .int (xs (nI (i + 1)).toNatClampNeg), .int (xs (nI (i + 2)).toNatClampNeg), .int (xs (nI (i + 3)).toNatClampNeg), .ref o]) (rest := []) ⟨hx, hb, hml, hown, hts⟩ (h_cell l s.heap.size D t x0 o f (xs (nI (i + 1)).toNatClampNeg) (xs (nI (i + 2)).toNatClampNeg) (xs (nI (i + 3)).toNatClampNeg) (XR_h0 hw) e2 hX2 H.size) (kH hts qw926 qw927 qw0 qw928 okL_cell ⟨Nat.le_of_ble_eq_true rfl, Nat.le_of_ble_eq_true rfl⟩) ⟨PMH.blind, fun U hU hW => ⟨rfl, ⟨by rw [hU]; exact (hC.at hS hZ).warm hW, hN.moved hW.alike⟩, by rw [hU], by rw [hU]; exact hq.1, ⟨hq.2.1, fun _ _ h9 => Or.inl (in_map (L := o :: w.map Prod.fst) rfl h9)⟩, fun q hq => hZ q (hsr q hq)⟩⟩ rfl rfl hl.1 rfl (lv_room (Nat.le_of_ble_eq_true rfl)) dL_law_998 ⟨by show cells + 5 ≤ 601024; omega, by show slots + 70 ≤ 7293034; omega⟩) hS hsr (fun b9 H1 locs1 hR1 hP1 hD1 hS _ hk1 => ?_)
  obtain ⟨hP, hD⟩ := frm (wr := MW A t μ) (ws := OUT t o f :: w) (ws1 := OUT t o b9.1 :: b9.2) rfl hPD.1 hPD.2 hsr hk1 hP1 hD1
  refine W.widen (k := cells + 6) (n := slots + 81) (by show cells + 5 ≤ _; omega) (by show slots + 70 ≤ _; omega) ?_
  refine lv_istore (lv' := (5, .int (nI th)) :: [(4, .int (nI i)), (0, .ref b), (1, .ref x0), (2, .ref (A 0)), (3, .ref o)]) hx hb dL_law_1001 hl (by decide) rfl (fun ls hl => ?_)
  refine lv_aload_n hx hb dL_law_1003 rfl (lv_at hl 4 rfl) ?_
  refine lv_aload_n hx hb dL_law_1004 rfl (lv_at hl 2 rfl) ?_
  refine lv_iload hx hb dL_law_1005 (lv_at hl 1 rfl) ?_
  refine lv_iconst (v := nI 1) hx hb dL_law_1007 (by decide) ?_
  refine lv_iadd hx hb dL_law_1008 ?_
  refine topI (nI_add i 1).symm ?_
  refine va_sld hx hb hX hbl hbA hS (vin_at (k := 1) (by omega) hL) dL_law_1009 ?_
  refine lv_aload_n hx hb dL_law_1010 rfl (lv_at hl 2 rfl) ?_
  refine lv_iload hx hb dL_law_1011 (lv_at hl 1 rfl) ?_
  refine lv_iconst (v := nI 2) hx hb dL_law_1013 (by decide) ?_
  refine lv_iadd hx hb dL_law_1014 ?_
  refine topI (nI_add i 2).symm ?_
  refine va_sld hx hb hX hbl hbA hS (vin_at (k := 2) (by omega) hL) dL_law_1015 ?_
  refine lv_aload_n hx hb dL_law_1016 rfl (lv_at hl 2 rfl) ?_
  refine lv_iload hx hb dL_law_1017 (lv_at hl 1 rfl) ?_
  refine lv_iconst (v := nI 3) hx hb dL_law_1019 (by decide) ?_
  refine lv_iadd hx hb dL_law_1020 ?_
  refine topI (nI_add i 3).symm ?_
  refine va_sld hx hb hX hbl hbA hS (vin_at (k := 3) (by omega) hL) dL_law_1021 ?_
  have hSz : s.heap.size ≤ H1.size := hS.1
  have hPD := pd_perm (List.perm_append_comm (l₁ := MW A t μ) (l₂ := OUT t o b9.1 :: b9.2)) hP hD
  have hq := pd_sub (List.sublist_append_right (OUT t o b9.1 :: b9.2) (MW A t μ)) hPD.1 hPD.2
  have hsr := sz_in (L := ML A) hq.2 rfl hSz
  refine call_M (va_runV (As := [.int (xs (nI (i + 1)).toNatClampNeg), .int (xs (nI (i + 2)).toNatClampNeg), .int (xs (nI (i + 3)).toNatClampNeg)]) (rest := []) ⟨hx, hb, hml, hown, hts⟩ (hM A H1.size) (kV hts qw1154 qw1155 qw1156 qw9 qw1157 ok_X5_cell ⟨Nat.le_of_ble_eq_true rfl, Nat.le_of_ble_eq_true rfl⟩) ⟨PM.blind, va_recv hK hq.1 (ci := 6) (q0 := 0) rfl rfl, fun U hU hW => ⟨rfl, by rw [hU]; exact (hC.at hS hZ).warm hW, by rw [hU], by rw [hU]; exact hq.1, ⟨hq.2.1, fun _ _ h9 => Or.inl (in_map (L := ML A) rfl h9)⟩, fun q hq => hZ q (hsr q hq)⟩⟩ rfl rfl hl.1 rfl (lv_room (Nat.le_of_ble_eq_true rfl)) dL_law_1022 ⟨by show cells + 6 + 0 ≤ 601024; omega, by show slots + 81 + 0 ≤ 7293034; omega⟩) hS hsr (fun H locs hP1 hD1 hS _ hk1 => ?_)
  obtain ⟨hP, hD⟩ := frm (L := ML A) (wr := OUT t o b9.1 :: b9.2) (ws := MW A t μ) (ws1 := MW A t m') rfl hPD.1 hPD.2 hsr hk1 hP1 hD1
  refine W.widen (k := cells + 6) (n := slots + 81) (Nat.le_refl _) (Nat.le_refl _) ?_
  refine lv_istore (lv' := (6, .int v') :: (5, .int (nI th)) :: [(4, .int (nI i)), (0, .ref b), (1, .ref x0), (2, .ref (A 0)), (3, .ref o)]) hx hb dL_law_1025 hl (by decide) rfl (fun ls hl => ?_)
  refine lv_aload_n hx hb dL_law_1027 rfl (lv_at hl 5 rfl) ?_
  have hq := pd_sub (List.sublist_append_right (OUT t o b9.1 :: b9.2) (MW A t m')) hP hD
  refine call_R (va_runV (As := []) (rest := []) ⟨hx, hb, hml, hown, hts⟩ (c_X5_thrown l s.heap.size D t A m' (m_thrown m') rfl) (kV hts qw1000 qw1001 qw1002 qw9 qw1003 ok_X5_thrown ⟨Nat.le_of_ble_eq_true rfl, Nat.le_of_ble_eq_true rfl⟩) ⟨PR.blind, va_recv hK hq.1 (ci := 6) (q0 := 0) rfl rfl, fun U hU hW => ⟨rfl, by rw [hU]; exact (hC.at hS hZ).warm hW, by rw [hU]; exact hq.1⟩⟩ rfl rfl hl.1 rfl (lv_room (Nat.le_of_ble_eq_true rfl)) dL_law_1028 ⟨by show cells + 6 + 0 ≤ 601024; omega, by show slots + 81 + 0 ≤ 7293034; omega⟩) ?_
  refine lv_iload hx hb dL_law_1031 (lv_at hl 1 rfl) ?_
  refine lv_icmp_eq (tgt := 1038) hx hb dL_law_1033 (by decide) (fun hc => ?_) (fun hc => absurd e1 hc)
  refine lv_iload hx hb dL_law_1038 (lv_at hl 1 rfl) ?_
  refine lv_if_ne (tgt := 1055) hx hb dL_law_1040 (by decide) (fun hc => (lv_goto (tgt := 1560) hx hb dL_law_1055 (by decide) (kk ls H locs ⟨b9.1, b9.2, m', lv_sub hl [2, 3, 4, 5, 6] rfl, hP, hD, hS, hR1.2⟩))) (fun hc => ?_)
  have hth : th = 0 := by
    have : nI th = nI 0 := hc
    rwa [nI_eq (by omega) (by decide)] at this
  refine lv_aload_n hx hb dL_law_1043 rfl (lv_at hl 6 rfl) ?_
  refine lv_iconst (v := nI 0) hx hb dL_law_1044 (by decide) ?_
  refine va_lald hx hb hK hP 0 6 rfl rfl vin01 dL_law_1045 ?_
  refine lv_iload hx hb dL_law_1046 (lv_at hl 0 rfl) ?_
  refine lv_i2l hx hb dL_law_1048 rfl ?_
  refine W.lcmp hx hb dL_law_1049 ?_
  refine lv_if_eq (tgt := 1055) hx hb dL_law_1050 (by decide) (fun hc => (lv_goto (tgt := 1560) hx hb dL_law_1055 (by decide) (kk ls H locs ⟨b9.1, b9.2, m', lv_sub hl [2, 3, 4, 5, 6] rfl, hP, hD, hS, hR1.2⟩))) (fun hc => absurd ?_ hc)
  have h0 : b9.1 (nI 0).toNatClampNeg = v'.toInt64 := by rw [e3 hth]; exact hR1.1 hth
  show lg_cmp (b9.1 (nI 0).toNatClampNeg) v'.toInt64 = 0
  rw [h0]
  exact (lg_cmp_eq _ _).mpr rfl
set_option maxHeartbeats 4000000 in
theorem k_triple {p : Program} {l : Launch} {e : Env} {s : State} {m : MethodId} {below : List Frame} {meth : Method} {c : Code} {b L : Nat} {xs : Nat → Int32} {Q : State → Prop} {D : va_G} {t : Nat → ClassId} {x0 o : Nat} {A : Nat → Nat} (C0 : lw_At p s m meth c b L xs) (hC : CTX s.heap.size D t s s.heap) (hN : NC s) (hl9 : l.stackTraces = false) {i : Nat} (hi : i + 4 ≤ L) (hL : L ≤ 2048) {H : Heap} {locs : List Loc} {ls : Array Slot} (hI : LINV D t s b x0 o A (nI i) ls H locs) {cells slots : Nat} (hc1 : cells + 6 ≤ 601024) (hc2 : slots + 81 ≤ 7293034) (kk : ∀ ls H locs, LINV D t s b x0 o A (nI i) ls H locs → W p l e room_1 s m #[Value.ref b] below meth c H locs (cells + 6) (slots + 81) Q (F0 m 1560 ls [])) : W p l e room_1 s m #[Value.ref b] below meth c H locs cells slots Q (F0 m 1058 ls []) := by
  obtain ⟨hx, hb, hr, hml, hown, hts0, hX, hbl, hlocks, hgv⟩ := C0
  have hts : ∀ w ∈ LA, w.before _ s = true := fun w hw => hts0 w (LA_tbl w hw)
  obtain ⟨f, w, μ, hl, hP, hD, hS, hw⟩ := hI
  have hK := hC.1
  have hZ : ∀ q, OA [] s.heap.size q → s.heap.size ≤ q := fun q h => h.elim (fun z => nomatch z) id
  have hbA : ¬ OA [] s.heap.size b := fun z => absurd hbl (Nat.not_lt.mpr (hZ b z))
  refine lv_aload_n hx hb dL_law_1058 rfl (lv_at hl 2 rfl) ?_
  refine lv_aload_n hx hb dL_law_1059 rfl (lv_at hl 1 rfl) ?_
  refine lv_iload hx hb dL_law_1060 (lv_at hl 0 rfl) ?_
  refine lv_iconst (v := nI 1) hx hb dL_law_1062 (by decide) ?_
  refine lv_iadd hx hb dL_law_1063 ?_
  refine topI (nI_add i 1).symm ?_
  refine va_sld hx hb hX hbl hbA hS (vin_at (k := 1) (by omega) hL) dL_law_1064 ?_
  refine lv_aload_n hx hb dL_law_1065 rfl (lv_at hl 1 rfl) ?_
  refine lv_iload hx hb dL_law_1066 (lv_at hl 0 rfl) ?_
  refine lv_iconst (v := nI 2) hx hb dL_law_1068 (by decide) ?_
  refine lv_iadd hx hb dL_law_1069 ?_
  refine topI (nI_add i 2).symm ?_
  refine va_sld hx hb hX hbl hbA hS (vin_at (k := 2) (by omega) hL) dL_law_1070 ?_
  refine lv_aload_n hx hb dL_law_1071 rfl (lv_at hl 4 rfl) ?_
  obtain ⟨v, v', th, m', e1, e2, e3, hM, hX2⟩ := op_triple l hl9 s.heap.size D t x0 hw (xs (nI (i + 1)).toNatClampNeg) (xs (nI (i + 2)).toNatClampNeg)
  have hSz : s.heap.size ≤ H.size := hS.1
  have hPD := pd_perm (List.perm_append_comm (l₁ := OUT t o f :: w) (l₂ := MW A t μ)) hP hD
  have hq := pd_sub (List.sublist_append_right (MW A t μ) (OUT t o f :: w)) hPD.1 hPD.2
  have hsr := sz_in (L := o :: w.map Prod.fst) hq.2 rfl hSz
  refine call_Q (vx_runSW (As := [.ref x0, .int (xs (nI (i + 1)).toNatClampNeg), .int (xs (nI (i + 2)).toNatClampNeg), .ref o]) (rest := []) ⟨hx, hb, hml, hown, hts⟩ (h_triple l s.heap.size D t x0 o f (xs (nI (i + 1)).toNatClampNeg) (xs (nI (i + 2)).toNatClampNeg) (XR_h0 hw) e2 hX2 H.size) (kH hts qw930 qw931 qw0 qw932 okL_triple ⟨Nat.le_of_ble_eq_true rfl, Nat.le_of_ble_eq_true rfl⟩) ⟨PMH.blind, fun U hU hW => ⟨rfl, ⟨by rw [hU]; exact (hC.at hS hZ).warm hW, hN.moved hW.alike⟩, by rw [hU], by rw [hU]; exact hq.1, ⟨hq.2.1, fun _ _ h9 => Or.inl (in_map (L := o :: w.map Prod.fst) rfl h9)⟩, fun q hq => hZ q (hsr q hq)⟩⟩ rfl rfl hl.1 rfl (lv_room (Nat.le_of_ble_eq_true rfl)) dL_law_1072 ⟨by show cells + 5 ≤ 601024; omega, by show slots + 70 ≤ 7293034; omega⟩) hS hsr (fun b9 H1 locs1 hR1 hP1 hD1 hS _ hk1 => ?_)
  obtain ⟨hP, hD⟩ := frm (wr := MW A t μ) (ws := OUT t o f :: w) (ws1 := OUT t o b9.1 :: b9.2) rfl hPD.1 hPD.2 hsr hk1 hP1 hD1
  refine W.widen (k := cells + 6) (n := slots + 81) (by show cells + 5 ≤ _; omega) (by show slots + 70 ≤ _; omega) ?_
  refine lv_istore (lv' := (5, .int (nI th)) :: [(4, .int (nI i)), (0, .ref b), (1, .ref x0), (2, .ref (A 0)), (3, .ref o)]) hx hb dL_law_1075 hl (by decide) rfl (fun ls hl => ?_)
  refine lv_aload_n hx hb dL_law_1077 rfl (lv_at hl 4 rfl) ?_
  refine lv_aload_n hx hb dL_law_1078 rfl (lv_at hl 2 rfl) ?_
  refine lv_iload hx hb dL_law_1079 (lv_at hl 1 rfl) ?_
  refine lv_iconst (v := nI 1) hx hb dL_law_1081 (by decide) ?_
  refine lv_iadd hx hb dL_law_1082 ?_
  refine topI (nI_add i 1).symm ?_
  refine va_sld hx hb hX hbl hbA hS (vin_at (k := 1) (by omega) hL) dL_law_1083 ?_
  refine lv_aload_n hx hb dL_law_1084 rfl (lv_at hl 2 rfl) ?_
  refine lv_iload hx hb dL_law_1085 (lv_at hl 1 rfl) ?_
  refine lv_iconst (v := nI 2) hx hb dL_law_1087 (by decide) ?_
  refine lv_iadd hx hb dL_law_1088 ?_
  refine topI (nI_add i 2).symm ?_
  refine va_sld hx hb hX hbl hbA hS (vin_at (k := 2) (by omega) hL) dL_law_1089 ?_
  have hSz : s.heap.size ≤ H1.size := hS.1
  have hPD := pd_perm (List.perm_append_comm (l₁ := MW A t μ) (l₂ := OUT t o b9.1 :: b9.2)) hP hD
  have hq := pd_sub (List.sublist_append_right (OUT t o b9.1 :: b9.2) (MW A t μ)) hPD.1 hPD.2
  have hsr := sz_in (L := ML A) hq.2 rfl hSz
  refine call_M (va_runV (As := [.int (xs (nI (i + 1)).toNatClampNeg), .int (xs (nI (i + 2)).toNatClampNeg)]) (rest := []) ⟨hx, hb, hml, hown, hts⟩ (hM A H1.size) (kV hts qw1169 qw1170 qw1171 qw9 qw1172 ok_X5_triple ⟨Nat.le_of_ble_eq_true rfl, Nat.le_of_ble_eq_true rfl⟩) ⟨PM.blind, va_recv hK hq.1 (ci := 6) (q0 := 0) rfl rfl, fun U hU hW => ⟨rfl, by rw [hU]; exact (hC.at hS hZ).warm hW, by rw [hU], by rw [hU]; exact hq.1, ⟨hq.2.1, fun _ _ h9 => Or.inl (in_map (L := ML A) rfl h9)⟩, fun q hq => hZ q (hsr q hq)⟩⟩ rfl rfl hl.1 rfl (lv_room (Nat.le_of_ble_eq_true rfl)) dL_law_1090 ⟨by show cells + 6 + 0 ≤ 601024; omega, by show slots + 81 + 0 ≤ 7293034; omega⟩) hS hsr (fun H locs hP1 hD1 hS _ hk1 => ?_)
  obtain ⟨hP, hD⟩ := frm (L := ML A) (wr := OUT t o b9.1 :: b9.2) (ws := MW A t μ) (ws1 := MW A t m') rfl hPD.1 hPD.2 hsr hk1 hP1 hD1
  refine W.widen (k := cells + 6) (n := slots + 81) (Nat.le_refl _) (Nat.le_refl _) ?_
  refine lv_istore (lv' := (6, .int v') :: (5, .int (nI th)) :: [(4, .int (nI i)), (0, .ref b), (1, .ref x0), (2, .ref (A 0)), (3, .ref o)]) hx hb dL_law_1093 hl (by decide) rfl (fun ls hl => ?_)
  refine lv_aload_n hx hb dL_law_1095 rfl (lv_at hl 5 rfl) ?_
  have hq := pd_sub (List.sublist_append_right (OUT t o b9.1 :: b9.2) (MW A t m')) hP hD
  refine call_R (va_runV (As := []) (rest := []) ⟨hx, hb, hml, hown, hts⟩ (c_X5_thrown l s.heap.size D t A m' (m_thrown m') rfl) (kV hts qw1000 qw1001 qw1002 qw9 qw1003 ok_X5_thrown ⟨Nat.le_of_ble_eq_true rfl, Nat.le_of_ble_eq_true rfl⟩) ⟨PR.blind, va_recv hK hq.1 (ci := 6) (q0 := 0) rfl rfl, fun U hU hW => ⟨rfl, by rw [hU]; exact (hC.at hS hZ).warm hW, by rw [hU]; exact hq.1⟩⟩ rfl rfl hl.1 rfl (lv_room (Nat.le_of_ble_eq_true rfl)) dL_law_1096 ⟨by show cells + 6 + 0 ≤ 601024; omega, by show slots + 81 + 0 ≤ 7293034; omega⟩) ?_
  refine lv_iload hx hb dL_law_1099 (lv_at hl 1 rfl) ?_
  refine lv_icmp_eq (tgt := 1106) hx hb dL_law_1101 (by decide) (fun hc => ?_) (fun hc => absurd e1 hc)
  refine lv_iload hx hb dL_law_1106 (lv_at hl 1 rfl) ?_
  refine lv_if_ne (tgt := 1123) hx hb dL_law_1108 (by decide) (fun hc => (lv_goto (tgt := 1560) hx hb dL_law_1123 (by decide) (kk ls H locs ⟨b9.1, b9.2, m', lv_sub hl [2, 3, 4, 5, 6] rfl, hP, hD, hS, hR1.2⟩))) (fun hc => ?_)
  have hth : th = 0 := by
    have : nI th = nI 0 := hc
    rwa [nI_eq (by omega) (by decide)] at this
  refine lv_aload_n hx hb dL_law_1111 rfl (lv_at hl 6 rfl) ?_
  refine lv_iconst (v := nI 0) hx hb dL_law_1112 (by decide) ?_
  refine va_lald hx hb hK hP 0 6 rfl rfl vin01 dL_law_1113 ?_
  refine lv_iload hx hb dL_law_1114 (lv_at hl 0 rfl) ?_
  refine lv_i2l hx hb dL_law_1116 rfl ?_
  refine W.lcmp hx hb dL_law_1117 ?_
  refine lv_if_eq (tgt := 1123) hx hb dL_law_1118 (by decide) (fun hc => (lv_goto (tgt := 1560) hx hb dL_law_1123 (by decide) (kk ls H locs ⟨b9.1, b9.2, m', lv_sub hl [2, 3, 4, 5, 6] rfl, hP, hD, hS, hR1.2⟩))) (fun hc => absurd ?_ hc)
  have h0 : b9.1 (nI 0).toNatClampNeg = v'.toInt64 := by rw [e3 hth]; exact hR1.1 hth
  show lg_cmp (b9.1 (nI 0).toNatClampNeg) v'.toInt64 = 0
  rw [h0]
  exact (lg_cmp_eq _ _).mpr rfl
set_option maxHeartbeats 4000000 in
theorem k_row {p : Program} {l : Launch} {e : Env} {s : State} {m : MethodId} {below : List Frame} {meth : Method} {c : Code} {b L : Nat} {xs : Nat → Int32} {Q : State → Prop} {D : va_G} {t : Nat → ClassId} {x0 o : Nat} {A : Nat → Nat} (C0 : lw_At p s m meth c b L xs) (hC : CTX s.heap.size D t s s.heap) (hN : NC s) (hl9 : l.stackTraces = false) {i : Nat} (hi : i + 4 ≤ L) (hL : L ≤ 2048) {H : Heap} {locs : List Loc} {ls : Array Slot} (hI : LINV D t s b x0 o A (nI i) ls H locs) {cells slots : Nat} (hc1 : cells + 6 ≤ 601024) (hc2 : slots + 81 ≤ 7293034) (kk : ∀ ls H locs, LINV D t s b x0 o A (nI i) ls H locs → W p l e room_1 s m #[Value.ref b] below meth c H locs (cells + 6) (slots + 81) Q (F0 m 1560 ls [])) : W p l e room_1 s m #[Value.ref b] below meth c H locs cells slots Q (F0 m 1126 ls []) := by
  obtain ⟨hx, hb, hr, hml, hown, hts0, hX, hbl, hlocks, hgv⟩ := C0
  have hts : ∀ w ∈ LA, w.before _ s = true := fun w hw => hts0 w (LA_tbl w hw)
  obtain ⟨f, w, μ, hl, hP, hD, hS, hw⟩ := hI
  have hK := hC.1
  have hZ : ∀ q, OA [] s.heap.size q → s.heap.size ≤ q := fun q h => h.elim (fun z => nomatch z) id
  have hbA : ¬ OA [] s.heap.size b := fun z => absurd hbl (Nat.not_lt.mpr (hZ b z))
  refine lv_aload_n hx hb dL_law_1126 rfl (lv_at hl 2 rfl) ?_
  refine lv_aload_n hx hb dL_law_1127 rfl (lv_at hl 1 rfl) ?_
  refine lv_iload hx hb dL_law_1128 (lv_at hl 0 rfl) ?_
  refine lv_iconst (v := nI 1) hx hb dL_law_1130 (by decide) ?_
  refine lv_iadd hx hb dL_law_1131 ?_
  refine topI (nI_add i 1).symm ?_
  refine va_sld hx hb hX hbl hbA hS (vin_at (k := 1) (by omega) hL) dL_law_1132 ?_
  refine lv_aload_n hx hb dL_law_1133 rfl (lv_at hl 1 rfl) ?_
  refine lv_iload hx hb dL_law_1134 (lv_at hl 0 rfl) ?_
  refine lv_iconst (v := nI 2) hx hb dL_law_1136 (by decide) ?_
  refine lv_iadd hx hb dL_law_1137 ?_
  refine topI (nI_add i 2).symm ?_
  refine va_sld hx hb hX hbl hbA hS (vin_at (k := 2) (by omega) hL) dL_law_1138 ?_
  refine lv_aload_n hx hb dL_law_1139 rfl (lv_at hl 4 rfl) ?_
  obtain ⟨v, v', th, m', e1, e2, e3, hM, hX2⟩ := op_row l hl9 s.heap.size D t x0 hw (xs (nI (i + 1)).toNatClampNeg) (xs (nI (i + 2)).toNatClampNeg)
  have hSz : s.heap.size ≤ H.size := hS.1
  have hPD := pd_perm (List.perm_append_comm (l₁ := OUT t o f :: w) (l₂ := MW A t μ)) hP hD
  have hq := pd_sub (List.sublist_append_right (MW A t μ) (OUT t o f :: w)) hPD.1 hPD.2
  have hsr := sz_in (L := o :: w.map Prod.fst) hq.2 rfl hSz
  refine call_Q (vx_runSW (As := [.ref x0, .int (xs (nI (i + 1)).toNatClampNeg), .int (xs (nI (i + 2)).toNatClampNeg), .ref o]) (rest := []) ⟨hx, hb, hml, hown, hts⟩ (h_row l s.heap.size D t x0 o f (xs (nI (i + 1)).toNatClampNeg) (xs (nI (i + 2)).toNatClampNeg) (XR_h0 hw) e2 hX2 H.size) (kH hts qw934 qw935 qw0 qw936 okL_row ⟨Nat.le_of_ble_eq_true rfl, Nat.le_of_ble_eq_true rfl⟩) ⟨PMH.blind, fun U hU hW => ⟨rfl, ⟨by rw [hU]; exact (hC.at hS hZ).warm hW, hN.moved hW.alike⟩, by rw [hU], by rw [hU]; exact hq.1, ⟨hq.2.1, fun _ _ h9 => Or.inl (in_map (L := o :: w.map Prod.fst) rfl h9)⟩, fun q hq => hZ q (hsr q hq)⟩⟩ rfl rfl hl.1 rfl (lv_room (Nat.le_of_ble_eq_true rfl)) dL_law_1140 ⟨by show cells + 5 ≤ 601024; omega, by show slots + 70 ≤ 7293034; omega⟩) hS hsr (fun b9 H1 locs1 hR1 hP1 hD1 hS _ hk1 => ?_)
  obtain ⟨hP, hD⟩ := frm (wr := MW A t μ) (ws := OUT t o f :: w) (ws1 := OUT t o b9.1 :: b9.2) rfl hPD.1 hPD.2 hsr hk1 hP1 hD1
  refine W.widen (k := cells + 6) (n := slots + 81) (by show cells + 5 ≤ _; omega) (by show slots + 70 ≤ _; omega) ?_
  refine lv_istore (lv' := (5, .int (nI th)) :: [(4, .int (nI i)), (0, .ref b), (1, .ref x0), (2, .ref (A 0)), (3, .ref o)]) hx hb dL_law_1143 hl (by decide) rfl (fun ls hl => ?_)
  refine lv_aload_n hx hb dL_law_1145 rfl (lv_at hl 4 rfl) ?_
  refine lv_aload_n hx hb dL_law_1146 rfl (lv_at hl 2 rfl) ?_
  refine lv_iload hx hb dL_law_1147 (lv_at hl 1 rfl) ?_
  refine lv_iconst (v := nI 1) hx hb dL_law_1149 (by decide) ?_
  refine lv_iadd hx hb dL_law_1150 ?_
  refine topI (nI_add i 1).symm ?_
  refine va_sld hx hb hX hbl hbA hS (vin_at (k := 1) (by omega) hL) dL_law_1151 ?_
  refine lv_aload_n hx hb dL_law_1152 rfl (lv_at hl 2 rfl) ?_
  refine lv_iload hx hb dL_law_1153 (lv_at hl 1 rfl) ?_
  refine lv_iconst (v := nI 2) hx hb dL_law_1155 (by decide) ?_
  refine lv_iadd hx hb dL_law_1156 ?_
  refine topI (nI_add i 2).symm ?_
  refine va_sld hx hb hX hbl hbA hS (vin_at (k := 2) (by omega) hL) dL_law_1157 ?_
  have hSz : s.heap.size ≤ H1.size := hS.1
  have hPD := pd_perm (List.perm_append_comm (l₁ := MW A t μ) (l₂ := OUT t o b9.1 :: b9.2)) hP hD
  have hq := pd_sub (List.sublist_append_right (OUT t o b9.1 :: b9.2) (MW A t μ)) hPD.1 hPD.2
  have hsr := sz_in (L := ML A) hq.2 rfl hSz
  refine call_M (va_runV (As := [.int (xs (nI (i + 1)).toNatClampNeg), .int (xs (nI (i + 2)).toNatClampNeg)]) (rest := []) ⟨hx, hb, hml, hown, hts⟩ (hM A H1.size) (kV hts qw1173 qw1174 qw1175 qw9 qw1176 ok_X5_row ⟨Nat.le_of_ble_eq_true rfl, Nat.le_of_ble_eq_true rfl⟩) ⟨PM.blind, va_recv hK hq.1 (ci := 6) (q0 := 0) rfl rfl, fun U hU hW => ⟨rfl, by rw [hU]; exact (hC.at hS hZ).warm hW, by rw [hU], by rw [hU]; exact hq.1, ⟨hq.2.1, fun _ _ h9 => Or.inl (in_map (L := ML A) rfl h9)⟩, fun q hq => hZ q (hsr q hq)⟩⟩ rfl rfl hl.1 rfl (lv_room (Nat.le_of_ble_eq_true rfl)) dL_law_1158 ⟨by show cells + 6 + 0 ≤ 601024; omega, by show slots + 81 + 0 ≤ 7293034; omega⟩) hS hsr (fun H locs hP1 hD1 hS _ hk1 => ?_)
  obtain ⟨hP, hD⟩ := frm (L := ML A) (wr := OUT t o b9.1 :: b9.2) (ws := MW A t μ) (ws1 := MW A t m') rfl hPD.1 hPD.2 hsr hk1 hP1 hD1
  refine W.widen (k := cells + 6) (n := slots + 81) (Nat.le_refl _) (Nat.le_refl _) ?_
  refine lv_istore (lv' := (6, .int v') :: (5, .int (nI th)) :: [(4, .int (nI i)), (0, .ref b), (1, .ref x0), (2, .ref (A 0)), (3, .ref o)]) hx hb dL_law_1161 hl (by decide) rfl (fun ls hl => ?_)
  refine lv_aload_n hx hb dL_law_1163 rfl (lv_at hl 5 rfl) ?_
  have hq := pd_sub (List.sublist_append_right (OUT t o b9.1 :: b9.2) (MW A t m')) hP hD
  refine call_R (va_runV (As := []) (rest := []) ⟨hx, hb, hml, hown, hts⟩ (c_X5_thrown l s.heap.size D t A m' (m_thrown m') rfl) (kV hts qw1000 qw1001 qw1002 qw9 qw1003 ok_X5_thrown ⟨Nat.le_of_ble_eq_true rfl, Nat.le_of_ble_eq_true rfl⟩) ⟨PR.blind, va_recv hK hq.1 (ci := 6) (q0 := 0) rfl rfl, fun U hU hW => ⟨rfl, by rw [hU]; exact (hC.at hS hZ).warm hW, by rw [hU]; exact hq.1⟩⟩ rfl rfl hl.1 rfl (lv_room (Nat.le_of_ble_eq_true rfl)) dL_law_1164 ⟨by show cells + 6 + 0 ≤ 601024; omega, by show slots + 81 + 0 ≤ 7293034; omega⟩) ?_
  refine lv_iload hx hb dL_law_1167 (lv_at hl 1 rfl) ?_
  refine lv_icmp_eq (tgt := 1174) hx hb dL_law_1169 (by decide) (fun hc => ?_) (fun hc => absurd e1 hc)
  refine lv_iload hx hb dL_law_1174 (lv_at hl 1 rfl) ?_
  refine lv_if_ne (tgt := 1191) hx hb dL_law_1176 (by decide) (fun hc => (lv_goto (tgt := 1560) hx hb dL_law_1191 (by decide) (kk ls H locs ⟨b9.1, b9.2, m', lv_sub hl [2, 3, 4, 5, 6] rfl, hP, hD, hS, hR1.2⟩))) (fun hc => ?_)
  have hth : th = 0 := by
    have : nI th = nI 0 := hc
    rwa [nI_eq (by omega) (by decide)] at this
  refine lv_aload_n hx hb dL_law_1179 rfl (lv_at hl 6 rfl) ?_
  refine lv_iconst (v := nI 0) hx hb dL_law_1180 (by decide) ?_
  refine va_lald hx hb hK hP 0 6 rfl rfl vin01 dL_law_1181 ?_
  refine lv_iload hx hb dL_law_1182 (lv_at hl 0 rfl) ?_
  refine lv_i2l hx hb dL_law_1184 rfl ?_
  refine W.lcmp hx hb dL_law_1185 ?_
  refine lv_if_eq (tgt := 1191) hx hb dL_law_1186 (by decide) (fun hc => (lv_goto (tgt := 1560) hx hb dL_law_1191 (by decide) (kk ls H locs ⟨b9.1, b9.2, m', lv_sub hl [2, 3, 4, 5, 6] rfl, hP, hD, hS, hR1.2⟩))) (fun hc => absurd ?_ hc)
  have h0 : b9.1 (nI 0).toNatClampNeg = v'.toInt64 := by rw [e3 hth]; exact hR1.1 hth
  show lg_cmp (b9.1 (nI 0).toNatClampNeg) v'.toInt64 = 0
  rw [h0]
  exact (lg_cmp_eq _ _).mpr rfl
set_option maxHeartbeats 4000000 in
theorem k_count {p : Program} {l : Launch} {e : Env} {s : State} {m : MethodId} {below : List Frame} {meth : Method} {c : Code} {b L : Nat} {xs : Nat → Int32} {Q : State → Prop} {D : va_G} {t : Nat → ClassId} {x0 o : Nat} {A : Nat → Nat} (C0 : lw_At p s m meth c b L xs) (hC : CTX s.heap.size D t s s.heap) (hN : NC s) (hl9 : l.stackTraces = false) {i : Nat} (hi : i + 4 ≤ L) (hL : L ≤ 2048) {H : Heap} {locs : List Loc} {ls : Array Slot} (hI : LINV D t s b x0 o A (nI i) ls H locs) {cells slots : Nat} (hc1 : cells + 6 ≤ 601024) (hc2 : slots + 81 ≤ 7293034) (kk : ∀ ls H locs, LINV D t s b x0 o A (nI i) ls H locs → W p l e room_1 s m #[Value.ref b] below meth c H locs (cells + 6) (slots + 81) Q (F0 m 1560 ls [])) : W p l e room_1 s m #[Value.ref b] below meth c H locs cells slots Q (F0 m 1194 ls []) := by
  obtain ⟨hx, hb, hr, hml, hown, hts0, hX, hbl, hlocks, hgv⟩ := C0
  have hts : ∀ w ∈ LA, w.before _ s = true := fun w hw => hts0 w (LA_tbl w hw)
  obtain ⟨f, w, μ, hl, hP, hD, hS, hw⟩ := hI
  have hK := hC.1
  have hZ : ∀ q, OA [] s.heap.size q → s.heap.size ≤ q := fun q h => h.elim (fun z => nomatch z) id
  have hbA : ¬ OA [] s.heap.size b := fun z => absurd hbl (Nat.not_lt.mpr (hZ b z))
  refine lv_aload_n hx hb dL_law_1194 rfl (lv_at hl 2 rfl) ?_
  refine lv_aload_n hx hb dL_law_1195 rfl (lv_at hl 1 rfl) ?_
  refine lv_iload hx hb dL_law_1196 (lv_at hl 0 rfl) ?_
  refine lv_iconst (v := nI 1) hx hb dL_law_1198 (by decide) ?_
  refine lv_iadd hx hb dL_law_1199 ?_
  refine topI (nI_add i 1).symm ?_
  refine va_sld hx hb hX hbl hbA hS (vin_at (k := 1) (by omega) hL) dL_law_1200 ?_
  refine lv_aload_n hx hb dL_law_1201 rfl (lv_at hl 4 rfl) ?_
  obtain ⟨v, v', th, m', e1, e2, e3, hM, hX2⟩ := op_count l hl9 s.heap.size D t x0 hw (xs (nI (i + 1)).toNatClampNeg)
  have hSz : s.heap.size ≤ H.size := hS.1
  have hPD := pd_perm (List.perm_append_comm (l₁ := OUT t o f :: w) (l₂ := MW A t μ)) hP hD
  have hq := pd_sub (List.sublist_append_right (MW A t μ) (OUT t o f :: w)) hPD.1 hPD.2
  have hsr := sz_in (L := o :: w.map Prod.fst) hq.2 rfl hSz
  refine call_Q (vx_runSW (As := [.ref x0, .int (xs (nI (i + 1)).toNatClampNeg), .ref o]) (rest := []) ⟨hx, hb, hml, hown, hts⟩ (h_count l s.heap.size D t x0 o f (xs (nI (i + 1)).toNatClampNeg) (XR_h0 hw) e2 hX2 H.size) (kH hts qw938 qw939 qw0 qw940 okL_count ⟨Nat.le_of_ble_eq_true rfl, Nat.le_of_ble_eq_true rfl⟩) ⟨PMH.blind, fun U hU hW => ⟨rfl, ⟨by rw [hU]; exact (hC.at hS hZ).warm hW, hN.moved hW.alike⟩, by rw [hU], by rw [hU]; exact hq.1, ⟨hq.2.1, fun _ _ h9 => Or.inl (in_map (L := o :: w.map Prod.fst) rfl h9)⟩, fun q hq => hZ q (hsr q hq)⟩⟩ rfl rfl hl.1 rfl (lv_room (Nat.le_of_ble_eq_true rfl)) dL_law_1202 ⟨by show cells + 5 ≤ 601024; omega, by show slots + 70 ≤ 7293034; omega⟩) hS hsr (fun b9 H1 locs1 hR1 hP1 hD1 hS _ hk1 => ?_)
  obtain ⟨hP, hD⟩ := frm (wr := MW A t μ) (ws := OUT t o f :: w) (ws1 := OUT t o b9.1 :: b9.2) rfl hPD.1 hPD.2 hsr hk1 hP1 hD1
  refine W.widen (k := cells + 6) (n := slots + 81) (by show cells + 5 ≤ _; omega) (by show slots + 70 ≤ _; omega) ?_
  refine lv_istore (lv' := (5, .int (nI th)) :: [(4, .int (nI i)), (0, .ref b), (1, .ref x0), (2, .ref (A 0)), (3, .ref o)]) hx hb dL_law_1205 hl (by decide) rfl (fun ls hl => ?_)
  refine lv_aload_n hx hb dL_law_1207 rfl (lv_at hl 4 rfl) ?_
  refine lv_aload_n hx hb dL_law_1208 rfl (lv_at hl 2 rfl) ?_
  refine lv_iload hx hb dL_law_1209 (lv_at hl 1 rfl) ?_
  refine lv_iconst (v := nI 1) hx hb dL_law_1211 (by decide) ?_
  refine lv_iadd hx hb dL_law_1212 ?_
  refine topI (nI_add i 1).symm ?_
  refine va_sld hx hb hX hbl hbA hS (vin_at (k := 1) (by omega) hL) dL_law_1213 ?_
  have hSz : s.heap.size ≤ H1.size := hS.1
  have hPD := pd_perm (List.perm_append_comm (l₁ := MW A t μ) (l₂ := OUT t o b9.1 :: b9.2)) hP hD
  have hq := pd_sub (List.sublist_append_right (OUT t o b9.1 :: b9.2) (MW A t μ)) hPD.1 hPD.2
  have hsr := sz_in (L := ML A) hq.2 rfl hSz
  refine call_M (va_runV (As := [.int (xs (nI (i + 1)).toNatClampNeg)]) (rest := []) ⟨hx, hb, hml, hown, hts⟩ (hM A H1.size) (kV hts qw1181 qw1182 qw1183 qw9 qw1184 ok_X5_count ⟨Nat.le_of_ble_eq_true rfl, Nat.le_of_ble_eq_true rfl⟩) ⟨PM.blind, va_recv hK hq.1 (ci := 6) (q0 := 0) rfl rfl, fun U hU hW => ⟨rfl, by rw [hU]; exact (hC.at hS hZ).warm hW, by rw [hU], by rw [hU]; exact hq.1, ⟨hq.2.1, fun _ _ h9 => Or.inl (in_map (L := ML A) rfl h9)⟩, fun q hq => hZ q (hsr q hq)⟩⟩ rfl rfl hl.1 rfl (lv_room (Nat.le_of_ble_eq_true rfl)) dL_law_1214 ⟨by show cells + 6 + 0 ≤ 601024; omega, by show slots + 81 + 0 ≤ 7293034; omega⟩) hS hsr (fun H locs hP1 hD1 hS _ hk1 => ?_)
  obtain ⟨hP, hD⟩ := frm (L := ML A) (wr := OUT t o b9.1 :: b9.2) (ws := MW A t μ) (ws1 := MW A t m') rfl hPD.1 hPD.2 hsr hk1 hP1 hD1
  refine W.widen (k := cells + 6) (n := slots + 81) (Nat.le_refl _) (Nat.le_refl _) ?_
  refine lv_istore (lv' := (6, .int v') :: (5, .int (nI th)) :: [(4, .int (nI i)), (0, .ref b), (1, .ref x0), (2, .ref (A 0)), (3, .ref o)]) hx hb dL_law_1217 hl (by decide) rfl (fun ls hl => ?_)
  refine lv_aload_n hx hb dL_law_1219 rfl (lv_at hl 5 rfl) ?_
  have hq := pd_sub (List.sublist_append_right (OUT t o b9.1 :: b9.2) (MW A t m')) hP hD
  refine call_R (va_runV (As := []) (rest := []) ⟨hx, hb, hml, hown, hts⟩ (c_X5_thrown l s.heap.size D t A m' (m_thrown m') rfl) (kV hts qw1000 qw1001 qw1002 qw9 qw1003 ok_X5_thrown ⟨Nat.le_of_ble_eq_true rfl, Nat.le_of_ble_eq_true rfl⟩) ⟨PR.blind, va_recv hK hq.1 (ci := 6) (q0 := 0) rfl rfl, fun U hU hW => ⟨rfl, by rw [hU]; exact (hC.at hS hZ).warm hW, by rw [hU]; exact hq.1⟩⟩ rfl rfl hl.1 rfl (lv_room (Nat.le_of_ble_eq_true rfl)) dL_law_1220 ⟨by show cells + 6 + 0 ≤ 601024; omega, by show slots + 81 + 0 ≤ 7293034; omega⟩) ?_
  refine lv_iload hx hb dL_law_1223 (lv_at hl 1 rfl) ?_
  refine lv_icmp_eq (tgt := 1230) hx hb dL_law_1225 (by decide) (fun hc => ?_) (fun hc => absurd e1 hc)
  refine lv_iload hx hb dL_law_1230 (lv_at hl 1 rfl) ?_
  refine lv_if_ne (tgt := 1247) hx hb dL_law_1232 (by decide) (fun hc => (lv_goto (tgt := 1560) hx hb dL_law_1247 (by decide) (kk ls H locs ⟨b9.1, b9.2, m', lv_sub hl [2, 3, 4, 5, 6] rfl, hP, hD, hS, hR1.2⟩))) (fun hc => ?_)
  have hth : th = 0 := by
    have : nI th = nI 0 := hc
    rwa [nI_eq (by omega) (by decide)] at this
  refine lv_aload_n hx hb dL_law_1235 rfl (lv_at hl 6 rfl) ?_
  refine lv_iconst (v := nI 0) hx hb dL_law_1236 (by decide) ?_
  refine va_lald hx hb hK hP 0 6 rfl rfl vin01 dL_law_1237 ?_
  refine lv_iload hx hb dL_law_1238 (lv_at hl 0 rfl) ?_
  refine lv_i2l hx hb dL_law_1240 rfl ?_
  refine W.lcmp hx hb dL_law_1241 ?_
  refine lv_if_eq (tgt := 1247) hx hb dL_law_1242 (by decide) (fun hc => (lv_goto (tgt := 1560) hx hb dL_law_1247 (by decide) (kk ls H locs ⟨b9.1, b9.2, m', lv_sub hl [2, 3, 4, 5, 6] rfl, hP, hD, hS, hR1.2⟩))) (fun hc => absurd ?_ hc)
  have h0 : b9.1 (nI 0).toNatClampNeg = v'.toInt64 := by rw [e3 hth]; exact hR1.1 hth
  show lg_cmp (b9.1 (nI 0).toNatClampNeg) v'.toInt64 = 0
  rw [h0]
  exact (lg_cmp_eq _ _).mpr rfl
set_option maxHeartbeats 4000000 in
theorem k_whyNot {p : Program} {l : Launch} {e : Env} {s : State} {m : MethodId} {below : List Frame} {meth : Method} {c : Code} {b L : Nat} {xs : Nat → Int32} {Q : State → Prop} {D : va_G} {t : Nat → ClassId} {x0 o : Nat} {A : Nat → Nat} (C0 : lw_At p s m meth c b L xs) (hC : CTX s.heap.size D t s s.heap) (hN : NC s) (hl9 : l.stackTraces = false) {i : Nat} (hi : i + 4 ≤ L) (hL : L ≤ 2048) {H : Heap} {locs : List Loc} {ls : Array Slot} (hI : LINV D t s b x0 o A (nI i) ls H locs) {cells slots : Nat} (hc1 : cells + 6 ≤ 601024) (hc2 : slots + 81 ≤ 7293034) (kk : ∀ ls H locs, LINV D t s b x0 o A (nI i) ls H locs → W p l e room_1 s m #[Value.ref b] below meth c H locs (cells + 6) (slots + 81) Q (F0 m 1560 ls [])) : W p l e room_1 s m #[Value.ref b] below meth c H locs cells slots Q (F0 m 1250 ls []) := by
  obtain ⟨hx, hb, hr, hml, hown, hts0, hX, hbl, hlocks, hgv⟩ := C0
  have hts : ∀ w ∈ LA, w.before _ s = true := fun w hw => hts0 w (LA_tbl w hw)
  obtain ⟨f, w, μ, hl, hP, hD, hS, hw⟩ := hI
  have hK := hC.1
  have hZ : ∀ q, OA [] s.heap.size q → s.heap.size ≤ q := fun q h => h.elim (fun z => nomatch z) id
  have hbA : ¬ OA [] s.heap.size b := fun z => absurd hbl (Nat.not_lt.mpr (hZ b z))
  refine lv_aload_n hx hb dL_law_1250 rfl (lv_at hl 2 rfl) ?_
  refine lv_aload_n hx hb dL_law_1251 rfl (lv_at hl 1 rfl) ?_
  refine lv_iload hx hb dL_law_1252 (lv_at hl 0 rfl) ?_
  refine lv_iconst (v := nI 1) hx hb dL_law_1254 (by decide) ?_
  refine lv_iadd hx hb dL_law_1255 ?_
  refine topI (nI_add i 1).symm ?_
  refine va_sld hx hb hX hbl hbA hS (vin_at (k := 1) (by omega) hL) dL_law_1256 ?_
  refine lv_aload_n hx hb dL_law_1257 rfl (lv_at hl 1 rfl) ?_
  refine lv_iload hx hb dL_law_1258 (lv_at hl 0 rfl) ?_
  refine lv_iconst (v := nI 2) hx hb dL_law_1260 (by decide) ?_
  refine lv_iadd hx hb dL_law_1261 ?_
  refine topI (nI_add i 2).symm ?_
  refine va_sld hx hb hX hbl hbA hS (vin_at (k := 2) (by omega) hL) dL_law_1262 ?_
  refine lv_aload_n hx hb dL_law_1263 rfl (lv_at hl 1 rfl) ?_
  refine lv_iload hx hb dL_law_1264 (lv_at hl 0 rfl) ?_
  refine lv_iconst (v := nI 3) hx hb dL_law_1266 (by decide) ?_
  refine lv_iadd hx hb dL_law_1267 ?_
  refine topI (nI_add i 3).symm ?_
  refine va_sld hx hb hX hbl hbA hS (vin_at (k := 3) (by omega) hL) dL_law_1268 ?_
  refine lv_aload_n hx hb dL_law_1269 rfl (lv_at hl 4 rfl) ?_
  obtain ⟨v, v', th, m', e1, e2, e3, hM, hX2⟩ := op_whyNot l hl9 s.heap.size D t x0 hw (xs (nI (i + 1)).toNatClampNeg) (xs (nI (i + 2)).toNatClampNeg) (xs (nI (i + 3)).toNatClampNeg)
  have hSz : s.heap.size ≤ H.size := hS.1
  have hPD := pd_perm (List.perm_append_comm (l₁ := OUT t o f :: w) (l₂ := MW A t μ)) hP hD
  have hq := pd_sub (List.sublist_append_right (MW A t μ) (OUT t o f :: w)) hPD.1 hPD.2
  have hsr := sz_in (L := o :: w.map Prod.fst) hq.2 rfl hSz
  refine call_Q (vx_runSW (As := [.ref x0, .int (xs (nI (i + 1)).toNatClampNeg), .int (xs (nI (i + 2)).toNatClampNeg), .int (xs (nI (i + 3)).toNatClampNeg), .ref o]) (rest := []) ⟨hx, hb, hml, hown, hts⟩ (h_whyNot l s.heap.size D t x0 o f (xs (nI (i + 1)).toNatClampNeg) (xs (nI (i + 2)).toNatClampNeg) (xs (nI (i + 3)).toNatClampNeg) (XR_h0 hw) e2 hX2 H.size) (kH hts qw942 qw943 qw0 qw944 okL_whyNot ⟨Nat.le_of_ble_eq_true rfl, Nat.le_of_ble_eq_true rfl⟩) ⟨PMH.blind, fun U hU hW => ⟨rfl, ⟨by rw [hU]; exact (hC.at hS hZ).warm hW, hN.moved hW.alike⟩, by rw [hU], by rw [hU]; exact hq.1, ⟨hq.2.1, fun _ _ h9 => Or.inl (in_map (L := o :: w.map Prod.fst) rfl h9)⟩, fun q hq => hZ q (hsr q hq)⟩⟩ rfl rfl hl.1 rfl (lv_room (Nat.le_of_ble_eq_true rfl)) dL_law_1270 ⟨by show cells + 5 ≤ 601024; omega, by show slots + 70 ≤ 7293034; omega⟩) hS hsr (fun b9 H1 locs1 hR1 hP1 hD1 hS _ hk1 => ?_)
  obtain ⟨hP, hD⟩ := frm (wr := MW A t μ) (ws := OUT t o f :: w) (ws1 := OUT t o b9.1 :: b9.2) rfl hPD.1 hPD.2 hsr hk1 hP1 hD1
  refine W.widen (k := cells + 6) (n := slots + 81) (by show cells + 5 ≤ _; omega) (by show slots + 70 ≤ _; omega) ?_
  refine lv_istore (lv' := (5, .int (nI th)) :: [(4, .int (nI i)), (0, .ref b), (1, .ref x0), (2, .ref (A 0)), (3, .ref o)]) hx hb dL_law_1273 hl (by decide) rfl (fun ls hl => ?_)
  refine lv_aload_n hx hb dL_law_1275 rfl (lv_at hl 4 rfl) ?_
  refine lv_aload_n hx hb dL_law_1276 rfl (lv_at hl 2 rfl) ?_
  refine lv_iload hx hb dL_law_1277 (lv_at hl 1 rfl) ?_
  refine lv_iconst (v := nI 1) hx hb dL_law_1279 (by decide) ?_
  refine lv_iadd hx hb dL_law_1280 ?_
  refine topI (nI_add i 1).symm ?_
  refine va_sld hx hb hX hbl hbA hS (vin_at (k := 1) (by omega) hL) dL_law_1281 ?_
  refine lv_aload_n hx hb dL_law_1282 rfl (lv_at hl 2 rfl) ?_
  refine lv_iload hx hb dL_law_1283 (lv_at hl 1 rfl) ?_
  refine lv_iconst (v := nI 2) hx hb dL_law_1285 (by decide) ?_
  refine lv_iadd hx hb dL_law_1286 ?_
  refine topI (nI_add i 2).symm ?_
  refine va_sld hx hb hX hbl hbA hS (vin_at (k := 2) (by omega) hL) dL_law_1287 ?_
  refine lv_aload_n hx hb dL_law_1288 rfl (lv_at hl 2 rfl) ?_
  refine lv_iload hx hb dL_law_1289 (lv_at hl 1 rfl) ?_
  refine lv_iconst (v := nI 3) hx hb dL_law_1291 (by decide) ?_
  refine lv_iadd hx hb dL_law_1292 ?_
  refine topI (nI_add i 3).symm ?_
  refine va_sld hx hb hX hbl hbA hS (vin_at (k := 3) (by omega) hL) dL_law_1293 ?_
  have hSz : s.heap.size ≤ H1.size := hS.1
  have hPD := pd_perm (List.perm_append_comm (l₁ := MW A t μ) (l₂ := OUT t o b9.1 :: b9.2)) hP hD
  have hq := pd_sub (List.sublist_append_right (OUT t o b9.1 :: b9.2) (MW A t μ)) hPD.1 hPD.2
  have hsr := sz_in (L := ML A) hq.2 rfl hSz
  refine call_M (va_runV (As := [.int (xs (nI (i + 1)).toNatClampNeg), .int (xs (nI (i + 2)).toNatClampNeg), .int (xs (nI (i + 3)).toNatClampNeg)]) (rest := []) ⟨hx, hb, hml, hown, hts⟩ (hM A H1.size) (kV hts qw1193 qw1194 qw1195 qw9 qw1196 ok_X5_whyNot ⟨Nat.le_of_ble_eq_true rfl, Nat.le_of_ble_eq_true rfl⟩) ⟨PM.blind, va_recv hK hq.1 (ci := 6) (q0 := 0) rfl rfl, fun U hU hW => ⟨rfl, by rw [hU]; exact (hC.at hS hZ).warm hW, by rw [hU], by rw [hU]; exact hq.1, ⟨hq.2.1, fun _ _ h9 => Or.inl (in_map (L := ML A) rfl h9)⟩, fun q hq => hZ q (hsr q hq)⟩⟩ rfl rfl hl.1 rfl (lv_room (Nat.le_of_ble_eq_true rfl)) dL_law_1294 ⟨by show cells + 6 + 0 ≤ 601024; omega, by show slots + 81 + 0 ≤ 7293034; omega⟩) hS hsr (fun H locs hP1 hD1 hS _ hk1 => ?_)
  obtain ⟨hP, hD⟩ := frm (L := ML A) (wr := OUT t o b9.1 :: b9.2) (ws := MW A t μ) (ws1 := MW A t m') rfl hPD.1 hPD.2 hsr hk1 hP1 hD1
  refine W.widen (k := cells + 6) (n := slots + 81) (Nat.le_refl _) (Nat.le_refl _) ?_
  refine lv_istore (lv' := (6, .int v') :: (5, .int (nI th)) :: [(4, .int (nI i)), (0, .ref b), (1, .ref x0), (2, .ref (A 0)), (3, .ref o)]) hx hb dL_law_1297 hl (by decide) rfl (fun ls hl => ?_)
  refine lv_aload_n hx hb dL_law_1299 rfl (lv_at hl 5 rfl) ?_
  have hq := pd_sub (List.sublist_append_right (OUT t o b9.1 :: b9.2) (MW A t m')) hP hD
  refine call_R (va_runV (As := []) (rest := []) ⟨hx, hb, hml, hown, hts⟩ (c_X5_thrown l s.heap.size D t A m' (m_thrown m') rfl) (kV hts qw1000 qw1001 qw1002 qw9 qw1003 ok_X5_thrown ⟨Nat.le_of_ble_eq_true rfl, Nat.le_of_ble_eq_true rfl⟩) ⟨PR.blind, va_recv hK hq.1 (ci := 6) (q0 := 0) rfl rfl, fun U hU hW => ⟨rfl, by rw [hU]; exact (hC.at hS hZ).warm hW, by rw [hU]; exact hq.1⟩⟩ rfl rfl hl.1 rfl (lv_room (Nat.le_of_ble_eq_true rfl)) dL_law_1300 ⟨by show cells + 6 + 0 ≤ 601024; omega, by show slots + 81 + 0 ≤ 7293034; omega⟩) ?_
  refine lv_iload hx hb dL_law_1303 (lv_at hl 1 rfl) ?_
  refine lv_icmp_eq (tgt := 1310) hx hb dL_law_1305 (by decide) (fun hc => ?_) (fun hc => absurd e1 hc)
  refine lv_iload hx hb dL_law_1310 (lv_at hl 1 rfl) ?_
  refine lv_if_ne (tgt := 1327) hx hb dL_law_1312 (by decide) (fun hc => (lv_goto (tgt := 1560) hx hb dL_law_1327 (by decide) (kk ls H locs ⟨b9.1, b9.2, m', lv_sub hl [2, 3, 4, 5, 6] rfl, hP, hD, hS, hR1.2⟩))) (fun hc => ?_)
  have hth : th = 0 := by
    have : nI th = nI 0 := hc
    rwa [nI_eq (by omega) (by decide)] at this
  refine lv_aload_n hx hb dL_law_1315 rfl (lv_at hl 6 rfl) ?_
  refine lv_iconst (v := nI 0) hx hb dL_law_1316 (by decide) ?_
  refine va_lald hx hb hK hP 0 6 rfl rfl vin01 dL_law_1317 ?_
  refine lv_iload hx hb dL_law_1318 (lv_at hl 0 rfl) ?_
  refine lv_i2l hx hb dL_law_1320 rfl ?_
  refine W.lcmp hx hb dL_law_1321 ?_
  refine lv_if_eq (tgt := 1327) hx hb dL_law_1322 (by decide) (fun hc => (lv_goto (tgt := 1560) hx hb dL_law_1327 (by decide) (kk ls H locs ⟨b9.1, b9.2, m', lv_sub hl [2, 3, 4, 5, 6] rfl, hP, hD, hS, hR1.2⟩))) (fun hc => absurd ?_ hc)
  have h0 : b9.1 (nI 0).toNatClampNeg = v'.toInt64 := by rw [e3 hth]; exact hR1.1 hth
  show lg_cmp (b9.1 (nI 0).toNatClampNeg) v'.toInt64 = 0
  rw [h0]
  exact (lg_cmp_eq _ _).mpr rfl
set_option maxHeartbeats 4000000 in
theorem k_waysWith {p : Program} {l : Launch} {e : Env} {s : State} {m : MethodId} {below : List Frame} {meth : Method} {c : Code} {b L : Nat} {xs : Nat → Int32} {Q : State → Prop} {D : va_G} {t : Nat → ClassId} {x0 o : Nat} {A : Nat → Nat} (C0 : lw_At p s m meth c b L xs) (hC : CTX s.heap.size D t s s.heap) (hN : NC s) (hl9 : l.stackTraces = false) {i : Nat} (hi : i + 4 ≤ L) (hL : L ≤ 2048) {H : Heap} {locs : List Loc} {ls : Array Slot} (hI : LINV D t s b x0 o A (nI i) ls H locs) {cells slots : Nat} (hc1 : cells + 6 ≤ 601024) (hc2 : slots + 81 ≤ 7293034) (kk : ∀ ls H locs, LINV D t s b x0 o A (nI i) ls H locs → W p l e room_1 s m #[Value.ref b] below meth c H locs (cells + 6) (slots + 81) Q (F0 m 1560 ls [])) : W p l e room_1 s m #[Value.ref b] below meth c H locs cells slots Q (F0 m 1343 ls []) := by
  obtain ⟨hx, hb, hr, hml, hown, hts0, hX, hbl, hlocks, hgv⟩ := C0
  have hts : ∀ w ∈ LA, w.before _ s = true := fun w hw => hts0 w (LA_tbl w hw)
  obtain ⟨f, w, μ, hl, hP, hD, hS, hw⟩ := hI
  have hK := hC.1
  have hZ : ∀ q, OA [] s.heap.size q → s.heap.size ≤ q := fun q h => h.elim (fun z => nomatch z) id
  have hbA : ¬ OA [] s.heap.size b := fun z => absurd hbl (Nat.not_lt.mpr (hZ b z))
  refine lv_aload_n hx hb dL_law_1343 rfl (lv_at hl 2 rfl) ?_
  refine lv_aload_n hx hb dL_law_1344 rfl (lv_at hl 1 rfl) ?_
  refine lv_iload hx hb dL_law_1345 (lv_at hl 0 rfl) ?_
  refine lv_iconst (v := nI 1) hx hb dL_law_1347 (by decide) ?_
  refine lv_iadd hx hb dL_law_1348 ?_
  refine topI (nI_add i 1).symm ?_
  refine va_sld hx hb hX hbl hbA hS (vin_at (k := 1) (by omega) hL) dL_law_1349 ?_
  refine lv_aload_n hx hb dL_law_1350 rfl (lv_at hl 1 rfl) ?_
  refine lv_iload hx hb dL_law_1351 (lv_at hl 0 rfl) ?_
  refine lv_iconst (v := nI 2) hx hb dL_law_1353 (by decide) ?_
  refine lv_iadd hx hb dL_law_1354 ?_
  refine topI (nI_add i 2).symm ?_
  refine va_sld hx hb hX hbl hbA hS (vin_at (k := 2) (by omega) hL) dL_law_1355 ?_
  refine lv_aload_n hx hb dL_law_1356 rfl (lv_at hl 1 rfl) ?_
  refine lv_iload hx hb dL_law_1357 (lv_at hl 0 rfl) ?_
  refine lv_iconst (v := nI 3) hx hb dL_law_1359 (by decide) ?_
  refine lv_iadd hx hb dL_law_1360 ?_
  refine topI (nI_add i 3).symm ?_
  refine va_sld hx hb hX hbl hbA hS (vin_at (k := 3) (by omega) hL) dL_law_1361 ?_
  refine lv_aload_n hx hb dL_law_1362 rfl (lv_at hl 4 rfl) ?_
  obtain ⟨v, v', th, m', e1, e2, e3, hM, hX2⟩ := op_waysWith l hl9 s.heap.size D t x0 hw (xs (nI (i + 1)).toNatClampNeg) (xs (nI (i + 2)).toNatClampNeg) (xs (nI (i + 3)).toNatClampNeg)
  have hSz : s.heap.size ≤ H.size := hS.1
  have hPD := pd_perm (List.perm_append_comm (l₁ := OUT t o f :: w) (l₂ := MW A t μ)) hP hD
  have hq := pd_sub (List.sublist_append_right (MW A t μ) (OUT t o f :: w)) hPD.1 hPD.2
  have hsr := sz_in (L := o :: w.map Prod.fst) hq.2 rfl hSz
  refine call_Q (vx_runSW (As := [.ref x0, .int (xs (nI (i + 1)).toNatClampNeg), .int (xs (nI (i + 2)).toNatClampNeg), .int (xs (nI (i + 3)).toNatClampNeg), .ref o]) (rest := []) ⟨hx, hb, hml, hown, hts⟩ (h_waysWith l s.heap.size D t x0 o f (xs (nI (i + 1)).toNatClampNeg) (xs (nI (i + 2)).toNatClampNeg) (xs (nI (i + 3)).toNatClampNeg) (XR_h0 hw) e2 hX2 H.size) (kH hts qw949 qw950 qw0 qw951 okL_waysWith ⟨Nat.le_of_ble_eq_true rfl, Nat.le_of_ble_eq_true rfl⟩) ⟨PMH.blind, fun U hU hW => ⟨rfl, ⟨by rw [hU]; exact (hC.at hS hZ).warm hW, hN.moved hW.alike⟩, by rw [hU], by rw [hU]; exact hq.1, ⟨hq.2.1, fun _ _ h9 => Or.inl (in_map (L := o :: w.map Prod.fst) rfl h9)⟩, fun q hq => hZ q (hsr q hq)⟩⟩ rfl rfl hl.1 rfl (lv_room (Nat.le_of_ble_eq_true rfl)) dL_law_1363 ⟨by show cells + 5 ≤ 601024; omega, by show slots + 70 ≤ 7293034; omega⟩) hS hsr (fun b9 H1 locs1 hR1 hP1 hD1 hS _ hk1 => ?_)
  obtain ⟨hP, hD⟩ := frm (wr := MW A t μ) (ws := OUT t o f :: w) (ws1 := OUT t o b9.1 :: b9.2) rfl hPD.1 hPD.2 hsr hk1 hP1 hD1
  refine W.widen (k := cells + 6) (n := slots + 81) (by show cells + 5 ≤ _; omega) (by show slots + 70 ≤ _; omega) ?_
  refine lv_istore (lv' := (5, .int (nI th)) :: [(4, .int (nI i)), (0, .ref b), (1, .ref x0), (2, .ref (A 0)), (3, .ref o)]) hx hb dL_law_1366 hl (by decide) rfl (fun ls hl => ?_)
  refine lv_aload_n hx hb dL_law_1368 rfl (lv_at hl 4 rfl) ?_
  refine lv_aload_n hx hb dL_law_1369 rfl (lv_at hl 2 rfl) ?_
  refine lv_iload hx hb dL_law_1370 (lv_at hl 1 rfl) ?_
  refine lv_iconst (v := nI 1) hx hb dL_law_1372 (by decide) ?_
  refine lv_iadd hx hb dL_law_1373 ?_
  refine topI (nI_add i 1).symm ?_
  refine va_sld hx hb hX hbl hbA hS (vin_at (k := 1) (by omega) hL) dL_law_1374 ?_
  refine lv_aload_n hx hb dL_law_1375 rfl (lv_at hl 2 rfl) ?_
  refine lv_iload hx hb dL_law_1376 (lv_at hl 1 rfl) ?_
  refine lv_iconst (v := nI 2) hx hb dL_law_1378 (by decide) ?_
  refine lv_iadd hx hb dL_law_1379 ?_
  refine topI (nI_add i 2).symm ?_
  refine va_sld hx hb hX hbl hbA hS (vin_at (k := 2) (by omega) hL) dL_law_1380 ?_
  refine lv_aload_n hx hb dL_law_1381 rfl (lv_at hl 2 rfl) ?_
  refine lv_iload hx hb dL_law_1382 (lv_at hl 1 rfl) ?_
  refine lv_iconst (v := nI 3) hx hb dL_law_1384 (by decide) ?_
  refine lv_iadd hx hb dL_law_1385 ?_
  refine topI (nI_add i 3).symm ?_
  refine va_sld hx hb hX hbl hbA hS (vin_at (k := 3) (by omega) hL) dL_law_1386 ?_
  have hSz : s.heap.size ≤ H1.size := hS.1
  have hPD := pd_perm (List.perm_append_comm (l₁ := MW A t μ) (l₂ := OUT t o b9.1 :: b9.2)) hP hD
  have hq := pd_sub (List.sublist_append_right (OUT t o b9.1 :: b9.2) (MW A t μ)) hPD.1 hPD.2
  have hsr := sz_in (L := ML A) hq.2 rfl hSz
  refine call_M (va_runV (As := [.int (xs (nI (i + 1)).toNatClampNeg), .int (xs (nI (i + 2)).toNatClampNeg), .int (xs (nI (i + 3)).toNatClampNeg)]) (rest := []) ⟨hx, hb, hml, hown, hts⟩ (hM A H1.size) (kV hts qw1201 qw1202 qw1203 qw9 qw1204 ok_X5_waysWith ⟨Nat.le_of_ble_eq_true rfl, Nat.le_of_ble_eq_true rfl⟩) ⟨PM.blind, va_recv hK hq.1 (ci := 6) (q0 := 0) rfl rfl, fun U hU hW => ⟨rfl, by rw [hU]; exact (hC.at hS hZ).warm hW, by rw [hU], by rw [hU]; exact hq.1, ⟨hq.2.1, fun _ _ h9 => Or.inl (in_map (L := ML A) rfl h9)⟩, fun q hq => hZ q (hsr q hq)⟩⟩ rfl rfl hl.1 rfl (lv_room (Nat.le_of_ble_eq_true rfl)) dL_law_1387 ⟨by show cells + 6 + 0 ≤ 601024; omega, by show slots + 81 + 0 ≤ 7293034; omega⟩) hS hsr (fun H locs hP1 hD1 hS _ hk1 => ?_)
  obtain ⟨hP, hD⟩ := frm (L := ML A) (wr := OUT t o b9.1 :: b9.2) (ws := MW A t μ) (ws1 := MW A t m') rfl hPD.1 hPD.2 hsr hk1 hP1 hD1
  refine W.widen (k := cells + 6) (n := slots + 81) (Nat.le_refl _) (Nat.le_refl _) ?_
  refine lv_istore (lv' := (6, .int v') :: (5, .int (nI th)) :: [(4, .int (nI i)), (0, .ref b), (1, .ref x0), (2, .ref (A 0)), (3, .ref o)]) hx hb dL_law_1390 hl (by decide) rfl (fun ls hl => ?_)
  refine lv_aload_n hx hb dL_law_1392 rfl (lv_at hl 5 rfl) ?_
  have hq := pd_sub (List.sublist_append_right (OUT t o b9.1 :: b9.2) (MW A t m')) hP hD
  refine call_R (va_runV (As := []) (rest := []) ⟨hx, hb, hml, hown, hts⟩ (c_X5_thrown l s.heap.size D t A m' (m_thrown m') rfl) (kV hts qw1000 qw1001 qw1002 qw9 qw1003 ok_X5_thrown ⟨Nat.le_of_ble_eq_true rfl, Nat.le_of_ble_eq_true rfl⟩) ⟨PR.blind, va_recv hK hq.1 (ci := 6) (q0 := 0) rfl rfl, fun U hU hW => ⟨rfl, by rw [hU]; exact (hC.at hS hZ).warm hW, by rw [hU]; exact hq.1⟩⟩ rfl rfl hl.1 rfl (lv_room (Nat.le_of_ble_eq_true rfl)) dL_law_1393 ⟨by show cells + 6 + 0 ≤ 601024; omega, by show slots + 81 + 0 ≤ 7293034; omega⟩) ?_
  refine lv_iload hx hb dL_law_1396 (lv_at hl 1 rfl) ?_
  refine lv_icmp_eq (tgt := 1403) hx hb dL_law_1398 (by decide) (fun hc => ?_) (fun hc => absurd e1 hc)
  refine lv_iload hx hb dL_law_1403 (lv_at hl 1 rfl) ?_
  refine lv_if_ne (tgt := 1420) hx hb dL_law_1405 (by decide) (fun hc => (lv_goto (tgt := 1560) hx hb dL_law_1420 (by decide) (kk ls H locs ⟨b9.1, b9.2, m', lv_sub hl [2, 3, 4, 5, 6] rfl, hP, hD, hS, hR1.2⟩))) (fun hc => ?_)
  have hth : th = 0 := by
    have : nI th = nI 0 := hc
    rwa [nI_eq (by omega) (by decide)] at this
  refine lv_aload_n hx hb dL_law_1408 rfl (lv_at hl 6 rfl) ?_
  refine lv_iconst (v := nI 0) hx hb dL_law_1409 (by decide) ?_
  refine va_lald hx hb hK hP 0 6 rfl rfl vin01 dL_law_1410 ?_
  refine lv_iload hx hb dL_law_1411 (lv_at hl 0 rfl) ?_
  refine lv_i2l hx hb dL_law_1413 rfl ?_
  refine W.lcmp hx hb dL_law_1414 ?_
  refine lv_if_eq (tgt := 1420) hx hb dL_law_1415 (by decide) (fun hc => (lv_goto (tgt := 1560) hx hb dL_law_1420 (by decide) (kk ls H locs ⟨b9.1, b9.2, m', lv_sub hl [2, 3, 4, 5, 6] rfl, hP, hD, hS, hR1.2⟩))) (fun hc => absurd ?_ hc)
  have h0 : b9.1 (nI 0).toNatClampNeg = v'.toInt64 := by rw [e3 hth]; exact hR1.1 hth
  show lg_cmp (b9.1 (nI 0).toNatClampNeg) v'.toInt64 = 0
  rw [h0]
  exact (lg_cmp_eq _ _).mpr rfl
set_option maxHeartbeats 4000000 in
theorem k_forced {p : Program} {l : Launch} {e : Env} {s : State} {m : MethodId} {below : List Frame} {meth : Method} {c : Code} {b L : Nat} {xs : Nat → Int32} {Q : State → Prop} {D : va_G} {t : Nat → ClassId} {x0 o : Nat} {A : Nat → Nat} (C0 : lw_At p s m meth c b L xs) (hC : CTX s.heap.size D t s s.heap) (hN : NC s) (hl9 : l.stackTraces = false) {i : Nat} (hi : i + 4 ≤ L) (hL : L ≤ 2048) {H : Heap} {locs : List Loc} {ls : Array Slot} (hI : LINV D t s b x0 o A (nI i) ls H locs) {cells slots : Nat} (hc1 : cells + 6 ≤ 601024) (hc2 : slots + 81 ≤ 7293034) (kk : ∀ ls H locs, LINV D t s b x0 o A (nI i) ls H locs → W p l e room_1 s m #[Value.ref b] below meth c H locs (cells + 6) (slots + 81) Q (F0 m 1560 ls [])) : W p l e room_1 s m #[Value.ref b] below meth c H locs cells slots Q (F0 m 1423 ls []) := by
  obtain ⟨hx, hb, hr, hml, hown, hts0, hX, hbl, hlocks, hgv⟩ := C0
  have hts : ∀ w ∈ LA, w.before _ s = true := fun w hw => hts0 w (LA_tbl w hw)
  obtain ⟨f, w, μ, hl, hP, hD, hS, hw⟩ := hI
  have hK := hC.1
  have hZ : ∀ q, OA [] s.heap.size q → s.heap.size ≤ q := fun q h => h.elim (fun z => nomatch z) id
  have hbA : ¬ OA [] s.heap.size b := fun z => absurd hbl (Nat.not_lt.mpr (hZ b z))
  refine lv_aload_n hx hb dL_law_1423 rfl (lv_at hl 2 rfl) ?_
  refine lv_aload_n hx hb dL_law_1424 rfl (lv_at hl 1 rfl) ?_
  refine lv_iload hx hb dL_law_1425 (lv_at hl 0 rfl) ?_
  refine lv_iconst (v := nI 1) hx hb dL_law_1427 (by decide) ?_
  refine lv_iadd hx hb dL_law_1428 ?_
  refine topI (nI_add i 1).symm ?_
  refine va_sld hx hb hX hbl hbA hS (vin_at (k := 1) (by omega) hL) dL_law_1429 ?_
  refine lv_aload_n hx hb dL_law_1430 rfl (lv_at hl 4 rfl) ?_
  obtain ⟨v, v', th, m', e1, e2, e3, hM, hX2⟩ := op_forced l hl9 s.heap.size D t x0 hw (xs (nI (i + 1)).toNatClampNeg)
  have hSz : s.heap.size ≤ H.size := hS.1
  have hPD := pd_perm (List.perm_append_comm (l₁ := OUT t o f :: w) (l₂ := MW A t μ)) hP hD
  have hq := pd_sub (List.sublist_append_right (MW A t μ) (OUT t o f :: w)) hPD.1 hPD.2
  have hsr := sz_in (L := o :: w.map Prod.fst) hq.2 rfl hSz
  refine call_Q (vx_runSW (As := [.ref x0, .int (xs (nI (i + 1)).toNatClampNeg), .ref o]) (rest := []) ⟨hx, hb, hml, hown, hts⟩ (h_forced l s.heap.size D t x0 o f (xs (nI (i + 1)).toNatClampNeg) (XR_h0 hw) e2 hX2 H.size) (kH hts qw953 qw954 qw0 qw955 okL_forced ⟨Nat.le_of_ble_eq_true rfl, Nat.le_of_ble_eq_true rfl⟩) ⟨PMH.blind, fun U hU hW => ⟨rfl, ⟨by rw [hU]; exact (hC.at hS hZ).warm hW, hN.moved hW.alike⟩, by rw [hU], by rw [hU]; exact hq.1, ⟨hq.2.1, fun _ _ h9 => Or.inl (in_map (L := o :: w.map Prod.fst) rfl h9)⟩, fun q hq => hZ q (hsr q hq)⟩⟩ rfl rfl hl.1 rfl (lv_room (Nat.le_of_ble_eq_true rfl)) dL_law_1431 ⟨by show cells + 5 ≤ 601024; omega, by show slots + 70 ≤ 7293034; omega⟩) hS hsr (fun b9 H1 locs1 hR1 hP1 hD1 hS _ hk1 => ?_)
  obtain ⟨hP, hD⟩ := frm (wr := MW A t μ) (ws := OUT t o f :: w) (ws1 := OUT t o b9.1 :: b9.2) rfl hPD.1 hPD.2 hsr hk1 hP1 hD1
  refine W.widen (k := cells + 6) (n := slots + 81) (by show cells + 5 ≤ _; omega) (by show slots + 70 ≤ _; omega) ?_
  refine lv_istore (lv' := (5, .int (nI th)) :: [(4, .int (nI i)), (0, .ref b), (1, .ref x0), (2, .ref (A 0)), (3, .ref o)]) hx hb dL_law_1434 hl (by decide) rfl (fun ls hl => ?_)
  refine lv_aload_n hx hb dL_law_1436 rfl (lv_at hl 4 rfl) ?_
  refine lv_aload_n hx hb dL_law_1437 rfl (lv_at hl 2 rfl) ?_
  refine lv_iload hx hb dL_law_1438 (lv_at hl 1 rfl) ?_
  refine lv_iconst (v := nI 1) hx hb dL_law_1440 (by decide) ?_
  refine lv_iadd hx hb dL_law_1441 ?_
  refine topI (nI_add i 1).symm ?_
  refine va_sld hx hb hX hbl hbA hS (vin_at (k := 1) (by omega) hL) dL_law_1442 ?_
  have hSz : s.heap.size ≤ H1.size := hS.1
  have hPD := pd_perm (List.perm_append_comm (l₁ := MW A t μ) (l₂ := OUT t o b9.1 :: b9.2)) hP hD
  have hq := pd_sub (List.sublist_append_right (OUT t o b9.1 :: b9.2) (MW A t μ)) hPD.1 hPD.2
  have hsr := sz_in (L := ML A) hq.2 rfl hSz
  refine call_M (va_runV (As := [.int (xs (nI (i + 1)).toNatClampNeg)]) (rest := []) ⟨hx, hb, hml, hown, hts⟩ (hM A H1.size) (kV hts qw1209 qw1210 qw1211 qw9 qw1212 ok_X5_forced ⟨Nat.le_of_ble_eq_true rfl, Nat.le_of_ble_eq_true rfl⟩) ⟨PM.blind, va_recv hK hq.1 (ci := 6) (q0 := 0) rfl rfl, fun U hU hW => ⟨rfl, by rw [hU]; exact (hC.at hS hZ).warm hW, by rw [hU], by rw [hU]; exact hq.1, ⟨hq.2.1, fun _ _ h9 => Or.inl (in_map (L := ML A) rfl h9)⟩, fun q hq => hZ q (hsr q hq)⟩⟩ rfl rfl hl.1 rfl (lv_room (Nat.le_of_ble_eq_true rfl)) dL_law_1443 ⟨by show cells + 6 + 0 ≤ 601024; omega, by show slots + 81 + 0 ≤ 7293034; omega⟩) hS hsr (fun H locs hP1 hD1 hS _ hk1 => ?_)
  obtain ⟨hP, hD⟩ := frm (L := ML A) (wr := OUT t o b9.1 :: b9.2) (ws := MW A t μ) (ws1 := MW A t m') rfl hPD.1 hPD.2 hsr hk1 hP1 hD1
  refine W.widen (k := cells + 6) (n := slots + 81) (Nat.le_refl _) (Nat.le_refl _) ?_
  refine lv_istore (lv' := (6, .int v') :: (5, .int (nI th)) :: [(4, .int (nI i)), (0, .ref b), (1, .ref x0), (2, .ref (A 0)), (3, .ref o)]) hx hb dL_law_1446 hl (by decide) rfl (fun ls hl => ?_)
  refine lv_aload_n hx hb dL_law_1448 rfl (lv_at hl 5 rfl) ?_
  have hq := pd_sub (List.sublist_append_right (OUT t o b9.1 :: b9.2) (MW A t m')) hP hD
  refine call_R (va_runV (As := []) (rest := []) ⟨hx, hb, hml, hown, hts⟩ (c_X5_thrown l s.heap.size D t A m' (m_thrown m') rfl) (kV hts qw1000 qw1001 qw1002 qw9 qw1003 ok_X5_thrown ⟨Nat.le_of_ble_eq_true rfl, Nat.le_of_ble_eq_true rfl⟩) ⟨PR.blind, va_recv hK hq.1 (ci := 6) (q0 := 0) rfl rfl, fun U hU hW => ⟨rfl, by rw [hU]; exact (hC.at hS hZ).warm hW, by rw [hU]; exact hq.1⟩⟩ rfl rfl hl.1 rfl (lv_room (Nat.le_of_ble_eq_true rfl)) dL_law_1449 ⟨by show cells + 6 + 0 ≤ 601024; omega, by show slots + 81 + 0 ≤ 7293034; omega⟩) ?_
  refine lv_iload hx hb dL_law_1452 (lv_at hl 1 rfl) ?_
  refine lv_icmp_eq (tgt := 1459) hx hb dL_law_1454 (by decide) (fun hc => ?_) (fun hc => absurd e1 hc)
  refine lv_iload hx hb dL_law_1459 (lv_at hl 1 rfl) ?_
  refine lv_if_ne (tgt := 1476) hx hb dL_law_1461 (by decide) (fun hc => (lv_goto (tgt := 1560) hx hb dL_law_1476 (by decide) (kk ls H locs ⟨b9.1, b9.2, m', lv_sub hl [2, 3, 4, 5, 6] rfl, hP, hD, hS, hR1.2⟩))) (fun hc => ?_)
  have hth : th = 0 := by
    have : nI th = nI 0 := hc
    rwa [nI_eq (by omega) (by decide)] at this
  refine lv_aload_n hx hb dL_law_1464 rfl (lv_at hl 6 rfl) ?_
  refine lv_iconst (v := nI 0) hx hb dL_law_1465 (by decide) ?_
  refine va_lald hx hb hK hP 0 6 rfl rfl vin01 dL_law_1466 ?_
  refine lv_iload hx hb dL_law_1467 (lv_at hl 0 rfl) ?_
  refine lv_i2l hx hb dL_law_1469 rfl ?_
  refine W.lcmp hx hb dL_law_1470 ?_
  refine lv_if_eq (tgt := 1476) hx hb dL_law_1471 (by decide) (fun hc => (lv_goto (tgt := 1560) hx hb dL_law_1476 (by decide) (kk ls H locs ⟨b9.1, b9.2, m', lv_sub hl [2, 3, 4, 5, 6] rfl, hP, hD, hS, hR1.2⟩))) (fun hc => absurd ?_ hc)
  have h0 : b9.1 (nI 0).toNatClampNeg = v'.toInt64 := by rw [e3 hth]; exact hR1.1 hth
  show lg_cmp (b9.1 (nI 0).toNatClampNeg) v'.toInt64 = 0
  rw [h0]
  exact (lg_cmp_eq _ _).mpr rfl
