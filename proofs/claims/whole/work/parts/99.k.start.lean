set_option maxHeartbeats 4000000 in
theorem whole_start {p : Program} {e : Env} {s : State} {m : MethodId} {below : List Frame} {meth : Method} {c : Code} (l : Launch) (hflags : l.flags = flags0) {b L : Nat} {xs : Nat → Int32} (hL : L ≤ 2048) (C0 : lw_At p s m meth c b L xs) : W p l e room_1 s m #[Value.ref b] below meth c s.heap [] 0 0 (lw_Z below #[Value.ref b] s) (entryFrame m ([Value.ref b] : List Value).toArray 9) := by
  have C := C0
  obtain ⟨hx, hb, hr, hml, hown, hts0, hX, hbl, hlocks, hgv⟩ := C0
  obtain ⟨D, t, hC, hN⟩ := ent_law hts0 hgv
  have hl9 : l.stackTraces = false := by unfold Launch.stackTraces; rw [hflags]; decide
  have hts : ∀ w ∈ LA, w.before _ s = true := fun w hw => hts0 w (LA_tbl w hw)
  have hK := hC.1
  have hZ : ∀ q, OA [] s.heap.size q → s.heap.size ≤ q := fun q h => h.elim (fun z => nomatch z) id
  have hS : va_S (OA [] s.heap.size) s.heap s.heap [] := va_S.rf
  have hP : va_P D vwCl ([] : va_W) s.heap := fun k x h => by simp at h
  have hD : va_D (OA [] s.heap.size) ([] : va_W) := ⟨fun i j p q h => by simp at h, fun k x h => by simp at h⟩
  have hl := lv_entry ([.ref b]) (n := 9) (Nat.le_of_ble_eq_true rfl)
  rw [lg_entry_eq]
  generalize (lg_sl ([.ref b]) ++ List.replicate (9 - (lg_sl ([.ref b])).length) Slot.unset).toArray = ls at hl ⊢
  have hl : lv_has ls 9 [(0, .ref b)] := hl
  refine va_new (ci := 5) (fs := [.null, .null, .null, .null, .null]) hx hb hts inX4 tyX4 tyX4_ok hown (hts _ qw27) (hts _ qw28) (hts _ qw1) hK hP hD hS OA.new rfl (fun j hj => by rcases (show j = 0 ∨ j = 1 ∨ j = 2 ∨ j = 3 ∨ j = 4 by omega) with rfl | rfl | rfl | rfl | rfl <;> rfl) (Nat.le_of_ble_eq_true rfl) (Nat.le_of_ble_eq_true rfl) dL_law_0 (fun x0 H hP hD hS => ?_)
  have hP : va_P D vwCl ([(x0, .inr (5, [.null, .null, .null, .null, .null]))] : va_W) H := hP
  have hD : va_D (OA [] s.heap.size) ([(x0, .inr (5, [.null, .null, .null, .null, .null]))] : va_W) := hD
  have hSz : s.heap.size ≤ H.size := hS.1
  refine W.widen (k := 1) (n := 5) (by omega) (by omega) ?_
  refine lv_dup hx hb dL_law_3 rfl ?_
  have hsr := sz_in (L := [x0]) hD rfl hSz
  refine call_E (va_runI (As := []) (rest := [.ref x0]) ⟨hx, hb, hml, hown, hts⟩ (c_X4_init l s.heap.size D t x0 H.size) (kI hts qw29 qw30 qw1 qw31 rfl ok_X4_init ⟨Nat.le_of_ble_eq_true rfl, Nat.le_of_ble_eq_true rfl⟩) ⟨PM.blind, fun U hU hW => ⟨rfl, by rw [hU]; exact (hC.at hS hZ).warm hW, by rw [hU], by rw [hU]; exact hP, ⟨hD.1, fun _ _ h9 => Or.inl (in_map (L := [x0]) rfl h9)⟩, fun q hq => hZ q (hsr q hq)⟩⟩ rfl rfl hl.1 rfl (lv_room (Nat.le_of_ble_eq_true rfl)) dL_law_4 ⟨Nat.le_of_ble_eq_true rfl, Nat.le_of_ble_eq_true rfl⟩) hS hsr (fun b9 H locs hP1 hD1 hS _ hk1 => ?_)
  obtain ⟨s0, s1, E, A4, B, G, u1, u2⟩ := b9
  have hP : va_P D vwCl (XW x0 s0 s1 (t 100) E A4 B G [] t (x0S u1 u2)) H := hP1
  have hD : va_D (OA [] s.heap.size) (XW x0 s0 s1 (t 100) E A4 B G [] t (x0S u1 u2)) := ⟨hD1.1, fun k x h9 => hsr _ (hD1.2 k x h9)⟩
  have hSz : s.heap.size ≤ H.size := hS.1
  generalize hw : XW x0 s0 s1 (t 100) E A4 B G [] t (x0S u1 u2) = w at hP hD
  refine W.widen (k := 81) (n := 35520) (by omega) (by omega) ?_
  refine lv_astore_n (lv' := [(1, .ref x0), (0, .ref b)]) hx hb dL_law_7 rfl hl (by decide) rfl (fun ls hl => ?_)
  refine va_new (ci := 6) (fs := [.null, .int (0 : Int32), .null, .int (0 : Int32), .null, .int (0 : Int32), .int (0 : Int32), .null, .null, .null]) hx hb hts inX5 tyX5 tyX5_ok hown (hts _ qw957) (hts _ qw958) (hts _ qw9) hK hP hD hS OA.new rfl (fun j hj => by rcases (show j = 0 ∨ j = 1 ∨ j = 2 ∨ j = 3 ∨ j = 4 ∨ j = 5 ∨ j = 6 ∨ j = 7 ∨ j = 8 ∨ j = 9 by omega) with rfl | rfl | rfl | rfl | rfl | rfl | rfl | rfl | rfl | rfl <;> rfl) (Nat.le_of_ble_eq_true rfl) (Nat.le_of_ble_eq_true rfl) dL_law_8 (fun g0 H hP hD hS => ?_)
  have hSz : s.heap.size ≤ H.size := hS.1
  refine W.widen (k := 82) (n := 35530) (by omega) (by omega) ?_
  refine lv_dup hx hb dL_law_11 rfl ?_
  obtain ⟨res, hlo, hRR⟩ := RR_0 u1 u2
  have hq := pd_sub (List.sublist_append_right w [(g0, .inr (6, [.null, .int (0 : Int32), .null, .int (0 : Int32), .null, .int (0 : Int32), .int (0 : Int32), .null, .null, .null]))]) hP hD
  have hsr := sz_in (L := [g0]) hq.2 rfl hSz
  refine call_E (va_runI (As := []) (rest := [.ref g0]) ⟨hx, hb, hml, hown, hts⟩ (c_X5_init l s.heap.size D t g0 res H.size hlo) (kI hts qw959 qw960 qw9 qw961 rfl ok_X5_init ⟨Nat.le_of_ble_eq_true rfl, Nat.le_of_ble_eq_true rfl⟩) ⟨PM.blind, fun U hU hW => ⟨rfl, by rw [hU]; exact (hC.at hS hZ).warm hW, by rw [hU], by rw [hU]; exact hq.1, ⟨hq.2.1, fun _ _ h9 => Or.inl (in_map (L := [g0]) rfl h9)⟩, fun q hq => hZ q (hsr q hq)⟩⟩ rfl rfl hl.1 rfl (lv_room (Nat.le_of_ble_eq_true rfl)) dL_law_12 ⟨Nat.le_of_ble_eq_true rfl, Nat.le_of_ble_eq_true rfl⟩) hS hsr (fun b9 H1 locs hP1 hD1 hS _ hk1 => ?_)
  obtain ⟨q1, q2, q3, q4, q5, q6⟩ := b9
  obtain ⟨A, hA⟩ : ∃ A, A = gL [g0, q1, q2, q3, q4, q5, q6] := ⟨_, rfl⟩
  have hP1 : va_P D vwCl (MW (gL [g0, q1, q2, q3, q4, q5, q6]) t (m_s' m0S res)) H1 := hP1
  have hD1 : va_D (OA [g0] H.size) (MW (gL [g0, q1, q2, q3, q4, q5, q6]) t (m_s' m0S res)) := hD1
  have hA0 : g0 = A 0 := by rw [hA]; rfl
  rw [← hA] at hP1 hD1
  obtain ⟨hP9, hD9⟩ := frm (L := [g0]) (wr := w) (ws1 := MW A t (m_s' m0S res)) rfl hP hD hsr hk1 hP1 hD1
  subst hA0
  clear hA
  have hP := hP9
  have hD := hD9
  refine W.widen (k := 88) (n := 39721) (by omega) (by omega) ?_
  refine lv_astore_n (lv' := [(2, .ref (A 0)), (1, .ref x0), (0, .ref b)]) hx hb dL_law_15 rfl hl (by decide) rfl (fun ls hl => ?_)
  refine lv_iconst (v := 1) hx hb dL_law_16 (by decide) ?_
  refine va_newa (R := room_1) (n := 1) (cells := 88) (slots := 39721) (atype := .long) (ty := .long) (N' := 1) (a0 := (1, .inr (.inl (fun _ => 0)))) hx hb (hts _ qw1256) rfl hK hP hD hS OA.new (fun _ => rfl) (by decide) (by decide) (Nat.le_of_ble_eq_true rfl) (Nat.le_of_ble_eq_true rfl) (Nat.le_of_ble_eq_true rfl) dL_law_17 (fun o cA H hK9 hP hD hS => ?_)
  obtain rfl : cA = t 6 := KA_eq (k := 6) hK hK9 rfl
  refine W.widen (k := 89) (n := 39722) (by omega) (by omega) ?_
  refine lv_astore_n (lv' := [(3, .ref o), (2, .ref (A 0)), (1, .ref x0), (0, .ref b)]) hx hb dL_law_19 rfl hl (by decide) rfl (fun ls hl => ?_)
  refine lv_iconst (v := nI 0) hx hb dL_law_20 (by decide) ?_
  refine lv_istore (lv' := [(4, .int (nI 0)), (3, .ref o), (2, .ref (A 0)), (1, .ref x0), (0, .ref b)]) hx hb dL_law_21 hl (by decide) rfl (fun ls hl => ?_)
  have hl := lv_sub hl [0, 4, 3, 2, 1] rfl
  obtain ⟨hP, hD⟩ := pd_perm (ws' := (OUT t o (fun _ => 0) :: w) ++ MW A t (m_s' m0S res)) (List.perm_append_comm (l₁ := w ++ MW A t (m_s' m0S res)) (l₂ := [OUT t o (fun _ => 0)])) hP hD
  refine law_go C hC hN hl9 hL 512 0 H locs ls 89 39722 (Nat.zero_le L) (by omega) ⟨fun _ => 0, w, m_s' m0S res, hl, hP, hD, hS, x0S u1 u2, [], none, none, ⟨hRR, LST_0 u1 u2⟩, s0, s1, t 100, E, A4, B, G, [], hw.symm, [], none, none, by simp [TT], rfl, Nat.zero_le _, fun _ => rfl, rfl, rfl, rfl, rfl⟩ (by omega) (by omega)
