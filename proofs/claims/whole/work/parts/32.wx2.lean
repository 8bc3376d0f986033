abbrev rm_X4_cell : Room := { frames := 7, cells := 0, slots := 0, locals := 142 }
theorem ok_X4_cell : okY yX4_cell 3 := ⟨by decide +kernel, by decide +kernel, by decide +kernel⟩
set_option maxHeartbeats 4000000 in
set_option maxRecDepth 100000 in
theorem c_X4_cell (l : Launch) (z0 : Nat) (D : va_G) (t : Nat → ClassId) (x0 : Nat) (s0 : Nat) (s1 : Nat) (e0 : Nat) (E : Nat → Nat) (A : Nat → Nat) (B : Nat → Nat) (G : Nat → Nat) (T : va_W) (μ : XS) (a1 : Int32) (a2 : Int32) (a3 : Int32) (res : Int32) (h : f_X4_cell μ a1 a2 a3 = some (.inl res)) : Met l yX4_cell (ws_ yX4_cell cX4_cell 4 (some .int)) rm_X4_cell (PR z0 D t [.ref (x0), .int a1, .int a2, .int a3] (XW x0 s0 s1 e0 E A B G T t μ)) (QR (some (.int res))) 0 0 FN := by
  refine Met.ofW (cc := cX4_cell) (maxL := 4) (ret := (some .int)) (by decide) rfl ?_
  intro p e s m args below meth c s₁ Bo hml hv
  obtain ⟨rfl, hC, hP⟩ := hv
  have hx := Bo.exec
  have hb := Bo.bytes
  have hr := Bo.returns
  have hts : ∀ w ∈ LA, w.before _ s = true := fun w hw => atoms_spec (ws := ws_ yX4_cell cX4_cell 4 (some .int)) Bo.pre w (List.mem_cons_of_mem _ hw)
  have hown : s.vm.findClass RX4 = some m.cls := findClass_of_methodNamed Bo.named
  have hlocks := Bo.notSynchronized
  have hK := hC.1
  have hl := lv_entry ([.ref (x0), .int a1, .int a2, .int a3]) (n := 4) (Nat.le_of_ble_eq_true rfl)
  rw [lg_entry_eq]
  generalize (lg_sl ([.ref (x0), .int a1, .int a2, .int a3]) ++ List.replicate (4 - (lg_sl ([.ref (x0), .int a1, .int a2, .int a3])).length) Slot.unset).toArray = ls at hl ⊢
  have hl : lv_has ls 4 [(0, .ref (x0)), (1, .int a1), (2, .int a2), (3, .int a3)] := hl
  unfold f_X4_cell at h
  refine lv_aload_n hx hb dX4_cell_0 rfl (lv_at hl 0 rfl) ?_
  refine lv_iload_n hx hb dX4_cell_1 rfl (lv_at hl 1 rfl) ?_
  refine lv_iload_n hx hb dX4_cell_2 rfl (lv_at hl 2 rfl) ?_
  obtain ⟨r1o, er1, h⟩ := obind h
  rcases r1o with r1 | Er1
  · replace h := sumL h
    refine call_R (va_runV (As := [.int a1, .int a2]) (rest := []) ⟨hx, hb, hml, hown, hts⟩ (c_X4_requireCell l z0 D t x0 s0 s1 e0 E A B G T μ a1 a2 _ er1) (kV hts qw583 qw585 qs19 qw1 qw586 ok_X4_requireCell ⟨Nat.le_of_ble_eq_true rfl, Nat.le_of_ble_eq_true rfl⟩) ⟨PR.blind, va_recv hK hP (ci := 5) (q0 := 0) rfl rfl, fun U hU hW => ⟨rfl, by rw [hU]; exact hC.warm hW, by rw [hU]; exact hP⟩⟩ rfl rfl hl.1 rfl (lv_room (Nat.le_of_ble_eq_true rfl)) dX4_cell_3 ⟨Nat.le_of_ble_eq_true rfl, Nat.le_of_ble_eq_true rfl⟩) ?_
    refine lv_iload_n hx hb dX4_cell_6 rfl (lv_at hl 3 rfl) ?_
    obtain ⟨r2o, er2, h⟩ := obind h
    rcases r2o with r2 | Er2
    · replace h := sumL h
      refine call_R (va_runS (As := [.int a3]) (rest := []) ⟨hx, hb, hml, hown, hts⟩ (c_X4_requireProperty l z0 D t a3 _ er2) (kS hts qw567 qw568 qw1 qw569 ok_X4_requireProperty ⟨Nat.le_of_ble_eq_true rfl, Nat.le_of_ble_eq_true rfl⟩) ⟨PR.blind, fun U hU hW => ⟨rfl, by rw [hU]; exact hC.warm hW, by rw [hU]; exact va_P_nil⟩⟩ rfl rfl hl.1 rfl (lv_room (Nat.le_of_ble_eq_true rfl)) dX4_cell_7 ⟨Nat.le_of_ble_eq_true rfl, Nat.le_of_ble_eq_true rfl⟩) ?_
      refine lv_iload_n hx hb dX4_cell_10 rfl (lv_at hl 3 rfl) ?_
      refine lv_if_ne (tgt := 27) hx hb dX4_cell_11 (by decide) (fun hc => ?_) (fun hc => ?_)
      · have h := iteF hc h
        refine lv_iload_n hx hb dX4_cell_27 rfl (lv_at hl 3 rfl) ?_
        refine lv_iconst (v := (1)) hx hb dX4_cell_28 (by decide) ?_
        refine lv_icmp_ne (tgt := 47) hx hb dX4_cell_29 (by decide) (fun hc => ?_) (fun hc => ?_)
        · have h := iteF hc h
          refine lv_aload_n hx hb dX4_cell_47 rfl (lv_at hl 0 rfl) ?_
          refine va_get hx hb hts inX4 hown hK hP 0 rfl rfl 4 (by decide) (hts _ qw161) (fun _ h9 => h9) rfl dX4_cell_48 ?_
          refine lv_iload_n hx hb dX4_cell_51 rfl (lv_at hl 1 rfl) ?_
          refine lv_iload_n hx hb dX4_cell_52 rfl (lv_at hl 2 rfl) ?_
          obtain ⟨r3, er3, h⟩ := obind h
          refine call_R (va_runS (As := [.int a1, .int a2]) (rest := [.ref (G 0)]) ⟨hx, hb, hml, hown, hts⟩ (c_X4_placeOf l z0 D t a1 a2 _ er3) (kS hts qw237 qw232 qw1 qw233 ok_X4_placeOf ⟨Nat.le_of_ble_eq_true rfl, Nat.le_of_ble_eq_true rfl⟩) ⟨PR.blind, fun U hU hW => ⟨rfl, by rw [hU]; exact hC.warm hW, by rw [hU]; exact va_P_nil⟩⟩ rfl rfl hl.1 rfl (lv_room (Nat.le_of_ble_eq_true rfl)) dX4_cell_53 ⟨Nat.le_of_ble_eq_true rfl, Nat.le_of_ble_eq_true rfl⟩) ?_
          obtain ⟨r4, er4, h⟩ := obind h
          refine call_R (va_runV (As := [.int r3]) (rest := []) ⟨hx, hb, hml, hown, hts⟩ (c_X1_coverCount l z0 D t G ((x_wide μ), (x_high μ), (x_pond μ), (x_walls μ), (x_paved μ), (x_tc μ), (x_flips μ), (x_refused μ), (x_names μ)) r3 _ er4) (kV hts qw595 qw345 qw346 qw8 qw347 ok_X1_coverCount ⟨Nat.le_of_ble_eq_true rfl, Nat.le_of_ble_eq_true rfl⟩) ⟨PR.blind, va_recv hK (sub_X_G (μ := μ) hP) (ci := 2) (q0 := 0) rfl rfl, fun U hU hW => ⟨rfl, by rw [hU]; exact hC.warm hW, by rw [hU]; exact (sub_X_G (μ := μ) hP)⟩⟩ rfl rfl hl.1 rfl (lv_room (Nat.le_of_ble_eq_true rfl)) dX4_cell_56 ⟨Nat.le_of_ble_eq_true rfl, Nat.le_of_ble_eq_true rfl⟩) ?_
          obtain rfl := Sum.inl.inj (Option.some.inj h)
          exact W.iret hx hb hr (fun t ht hW => ⟨rfl, ht⟩) (fun q hq => absurd hq List.not_mem_nil) dX4_cell_59
        · have h := iteT hc h
          refine lv_aload_n hx hb dX4_cell_32 rfl (lv_at hl 0 rfl) ?_
          refine va_get hx hb hts inX4 hown hK hP 0 rfl rfl 4 (by decide) (hts _ qw161) (fun _ h9 => h9) rfl dX4_cell_33 ?_
          refine lv_iload_n hx hb dX4_cell_36 rfl (lv_at hl 1 rfl) ?_
          refine lv_iload_n hx hb dX4_cell_37 rfl (lv_at hl 2 rfl) ?_
          obtain ⟨r5, er5, h⟩ := obind h
          refine call_R (va_runS (As := [.int a1, .int a2]) (rest := [.ref (G 0)]) ⟨hx, hb, hml, hown, hts⟩ (c_X4_cellAt l z0 D t a1 a2 _ er5) (kS hts qw589 qw235 qw1 qw236 ok_X4_cellAt ⟨Nat.le_of_ble_eq_true rfl, Nat.le_of_ble_eq_true rfl⟩) ⟨PR.blind, fun U hU hW => ⟨rfl, by rw [hU]; exact hC.warm hW, by rw [hU]; exact va_P_nil⟩⟩ rfl rfl hl.1 rfl (lv_room (Nat.le_of_ble_eq_true rfl)) dX4_cell_38 ⟨Nat.le_of_ble_eq_true rfl, Nat.le_of_ble_eq_true rfl⟩) ?_
          obtain ⟨r6, er6, h⟩ := obind h
          refine call_R (va_runV (As := [.long r5]) (rest := []) ⟨hx, hb, hml, hown, hts⟩ (c_X1_tripleOver l z0 D t G ((x_wide μ), (x_high μ), (x_pond μ), (x_walls μ), (x_paved μ), (x_tc μ), (x_flips μ), (x_refused μ), (x_names μ)) r5 _ er6) (kV hts qw594 qw444 qw445 qw8 qw446 ok_X1_tripleOver ⟨Nat.le_of_ble_eq_true rfl, Nat.le_of_ble_eq_true rfl⟩) ⟨PR.blind, va_recv hK (sub_X_G (μ := μ) hP) (ci := 2) (q0 := 0) rfl rfl, fun U hU hW => ⟨rfl, by rw [hU]; exact hC.warm hW, by rw [hU]; exact (sub_X_G (μ := μ) hP)⟩⟩ rfl rfl hl.1 rfl (lv_room (Nat.le_of_ble_eq_true rfl)) dX4_cell_41 ⟨Nat.le_of_ble_eq_true rfl, Nat.le_of_ble_eq_true rfl⟩) ?_
          refine lv_goto (tgt := 59) hx hb dX4_cell_44 (by decide) ?_
          obtain rfl := Sum.inl.inj (Option.some.inj h)
          exact W.iret hx hb hr (fun t ht hW => ⟨rfl, ht⟩) (fun q hq => absurd hq List.not_mem_nil) dX4_cell_59
      · have h := iteT hc h
        refine lv_aload_n hx hb dX4_cell_14 rfl (lv_at hl 0 rfl) ?_
        refine va_get hx hb hts inX4 hown hK hP 0 rfl rfl 4 (by decide) (hts _ qw161) (fun _ h9 => h9) rfl dX4_cell_15 ?_
        refine lv_iload_n hx hb dX4_cell_18 rfl (lv_at hl 1 rfl) ?_
        refine lv_iload_n hx hb dX4_cell_19 rfl (lv_at hl 2 rfl) ?_
        obtain ⟨r7, er7, h⟩ := obind h
        refine call_R (va_runS (As := [.int a1, .int a2]) (rest := [.ref (G 0)]) ⟨hx, hb, hml, hown, hts⟩ (c_X4_cellAt l z0 D t a1 a2 _ er7) (kS hts qw589 qw235 qw1 qw236 ok_X4_cellAt ⟨Nat.le_of_ble_eq_true rfl, Nat.le_of_ble_eq_true rfl⟩) ⟨PR.blind, fun U hU hW => ⟨rfl, by rw [hU]; exact hC.warm hW, by rw [hU]; exact va_P_nil⟩⟩ rfl rfl hl.1 rfl (lv_room (Nat.le_of_ble_eq_true rfl)) dX4_cell_20 ⟨Nat.le_of_ble_eq_true rfl, Nat.le_of_ble_eq_true rfl⟩) ?_
        obtain ⟨r8, er8, h⟩ := obind h
        refine call_R (va_runV (As := [.long r7]) (rest := []) ⟨hx, hb, hml, hown, hts⟩ (c_X1_kindOf l z0 D t G ((x_wide μ), (x_high μ), (x_pond μ), (x_walls μ), (x_paved μ), (x_tc μ), (x_flips μ), (x_refused μ), (x_names μ)) r7 _ er8) (kV hts qw590 qw591 qw592 qw8 qw593 ok_X1_kindOf ⟨Nat.le_of_ble_eq_true rfl, Nat.le_of_ble_eq_true rfl⟩) ⟨PR.blind, va_recv hK (sub_X_G (μ := μ) hP) (ci := 2) (q0 := 0) rfl rfl, fun U hU hW => ⟨rfl, by rw [hU]; exact hC.warm hW, by rw [hU]; exact (sub_X_G (μ := μ) hP)⟩⟩ rfl rfl hl.1 rfl (lv_room (Nat.le_of_ble_eq_true rfl)) dX4_cell_23 ⟨Nat.le_of_ble_eq_true rfl, Nat.le_of_ble_eq_true rfl⟩) ?_
        obtain rfl := Sum.inl.inj (Option.some.inj h)
        exact W.iret hx hb hr (fun t ht hW => ⟨rfl, ht⟩) (fun q hq => absurd hq List.not_mem_nil) dX4_cell_26
    · replace h := sumR h
      exact absurd (Option.some.inj h) (fun z => by cases z)
  · replace h := sumR h
    exact absurd (Option.some.inj h) (fun z => by cases z)

abbrev rx_X4_cell : Room := { frames := 7, cells := 1, slots := 6, locals := 142 }
set_option maxHeartbeats 4000000 in
set_option maxRecDepth 100000 in
theorem x_X4_cell (l : Launch) (hl9 : l.stackTraces = false) (z0 : Nat) (D : va_G) (t : Nat → ClassId) (x0 : Nat) (s0 : Nat) (s1 : Nat) (e0 : Nat) (E : Nat → Nat) (A : Nat → Nat) (B : Nat → Nat) (G : Nat → Nat) (T : va_W) (μ : XS) (a1 : Int32) (a2 : Int32) (a3 : Int32) (xE : String) (sz : Nat) (h : f_X4_cell μ a1 a2 a3 = some (.inr xE)) : vx_Met l yX4_cell (ws_ yX4_cell cX4_cell 4 (some .int)) rx_X4_cell (PM z0 D t [.ref (x0), .int a1, .int a2, .int a3] (XW x0 s0 s1 e0 E A B G T t μ) (XL x0 s0 s1 e0 E A B G T μ) sz) (fun _ _ _ _ => False) (XM xE D (XW x0 s0 s1 e0 E A B G T t μ) (XL x0 s0 s1 e0 E A B G T μ) sz) 1 6 (OA (XL x0 s0 s1 e0 E A B G T μ) sz) := by
  refine vx_ofW (cc := cX4_cell) (maxL := 4) (ret := (some .int)) (by decide) rfl ?_
  intro p e s m args below meth c s₁ Bo hml hT hv
  obtain ⟨rfl, hC, hsz, hP, hD, hZ⟩ := hv
  have hx := Bo.exec
  have hb := Bo.bytes
  have hr := Bo.returns
  have hts : ∀ w ∈ LA, w.before _ s = true := fun w hw => atoms_spec (ws := ws_ yX4_cell cX4_cell 4 (some .int)) Bo.pre w (List.mem_cons_of_mem _ hw)
  have hown : s.vm.findClass RX4 = some m.cls := findClass_of_methodNamed Bo.named
  have hlocks := Bo.notSynchronized
  have hK := hC.1
  subst hsz
  have hl := lv_entry ([.ref (x0), .int a1, .int a2, .int a3]) (n := 4) (Nat.le_of_ble_eq_true rfl)
  rw [lg_entry_eq]
  generalize (lg_sl ([.ref (x0), .int a1, .int a2, .int a3]) ++ List.replicate (4 - (lg_sl ([.ref (x0), .int a1, .int a2, .int a3])).length) Slot.unset).toArray = ls at hl ⊢
  have hl : lv_has ls 4 [(0, .ref (x0)), (1, .int a1), (2, .int a2), (3, .int a3)] := hl
  suffices K9 : ∀ (H : Heap) (locs : List Loc), va_P D vwCl (XW x0 s0 s1 e0 E A B G T t μ) H → va_S (OA (XL x0 s0 s1 e0 E A B G T μ) s.heap.size) s.heap H locs → W p l e (headSpec (ws_ yX4_cell cX4_cell 4 (some .int)) rx_X4_cell).room s m ([.ref (x0), .int a1, .int a2, .int a3] : List Value).toArray below meth c H locs 0 0 (vx_MQ below (fun _ _ _ _ => False) (XM xE D (XW x0 s0 s1 e0 E A B G T t μ) (XL x0 s0 s1 e0 E A B G T μ) s.heap.size) ([.ref (x0), .int a1, .int a2, .int a3] : List Value).toArray s 1 6 (OA (XL x0 s0 s1 e0 E A B G T μ) s.heap.size)) (F0 m 0 ls []) from K9 s.heap [] hP va_S.rf
  intro H locs hP hS
  have hSz : s.heap.size ≤ H.size := hS.1
  unfold f_X4_cell at h
  refine lv_aload_n hx hb dX4_cell_0 rfl (lv_at hl 0 rfl) ?_
  refine lv_iload_n hx hb dX4_cell_1 rfl (lv_at hl 1 rfl) ?_
  refine lv_iload_n hx hb dX4_cell_2 rfl (lv_at hl 2 rfl) ?_
  obtain ⟨r1o, er1, h⟩ := obind h
  rcases r1o with r1 | Er1
  · replace h := sumL h
    refine call_R (va_runV (As := [.int a1, .int a2]) (rest := []) ⟨hx, hb, hml, hown, hts⟩ (c_X4_requireCell l z0 D t x0 s0 s1 e0 E A B G T μ a1 a2 _ er1) (kV hts qw583 qw585 qs19 qw1 qw586 ok_X4_requireCell ⟨Nat.le_of_ble_eq_true rfl, Nat.le_of_ble_eq_true rfl⟩) ⟨PR.blind, va_recv hK hP (ci := 5) (q0 := 0) rfl rfl, fun U hU hW => ⟨rfl, by rw [hU]; exact (hC.at hS hZ).warm hW, by rw [hU]; exact hP⟩⟩ rfl rfl hl.1 rfl (lv_room (Nat.le_of_ble_eq_true rfl)) dX4_cell_3 ⟨Nat.le_of_ble_eq_true rfl, Nat.le_of_ble_eq_true rfl⟩) ?_
    refine lv_iload_n hx hb dX4_cell_6 rfl (lv_at hl 3 rfl) ?_
    obtain ⟨r2o, er2, h⟩ := obind h
    rcases r2o with r2 | Er2
    · replace h := sumL h
      refine call_R (va_runS (As := [.int a3]) (rest := []) ⟨hx, hb, hml, hown, hts⟩ (c_X4_requireProperty l z0 D t a3 _ er2) (kS hts qw567 qw568 qw1 qw569 ok_X4_requireProperty ⟨Nat.le_of_ble_eq_true rfl, Nat.le_of_ble_eq_true rfl⟩) ⟨PR.blind, fun U hU hW => ⟨rfl, by rw [hU]; exact (hC.at hS hZ).warm hW, by rw [hU]; exact va_P_nil⟩⟩ rfl rfl hl.1 rfl (lv_room (Nat.le_of_ble_eq_true rfl)) dX4_cell_7 ⟨Nat.le_of_ble_eq_true rfl, Nat.le_of_ble_eq_true rfl⟩) ?_
      refine lv_iload_n hx hb dX4_cell_10 rfl (lv_at hl 3 rfl) ?_
      refine lv_if_ne (tgt := 27) hx hb dX4_cell_11 (by decide) (fun hc => ?_) (fun hc => ?_)
      · have h := iteF hc h
        refine lv_iload_n hx hb dX4_cell_27 rfl (lv_at hl 3 rfl) ?_
        refine lv_iconst (v := (1)) hx hb dX4_cell_28 (by decide) ?_
        refine lv_icmp_ne (tgt := 47) hx hb dX4_cell_29 (by decide) (fun hc => ?_) (fun hc => ?_)
        · have h := iteF hc h
          refine lv_aload_n hx hb dX4_cell_47 rfl (lv_at hl 0 rfl) ?_
          refine va_get hx hb hts inX4 hown hK hP 0 rfl rfl 4 (by decide) (hts _ qw161) (fun _ h9 => h9) rfl dX4_cell_48 ?_
          refine lv_iload_n hx hb dX4_cell_51 rfl (lv_at hl 1 rfl) ?_
          refine lv_iload_n hx hb dX4_cell_52 rfl (lv_at hl 2 rfl) ?_
          obtain ⟨r3, er3, h⟩ := obind h
          refine call_R (va_runS (As := [.int a1, .int a2]) (rest := [.ref (G 0)]) ⟨hx, hb, hml, hown, hts⟩ (c_X4_placeOf l z0 D t a1 a2 _ er3) (kS hts qw237 qw232 qw1 qw233 ok_X4_placeOf ⟨Nat.le_of_ble_eq_true rfl, Nat.le_of_ble_eq_true rfl⟩) ⟨PR.blind, fun U hU hW => ⟨rfl, by rw [hU]; exact (hC.at hS hZ).warm hW, by rw [hU]; exact va_P_nil⟩⟩ rfl rfl hl.1 rfl (lv_room (Nat.le_of_ble_eq_true rfl)) dX4_cell_53 ⟨Nat.le_of_ble_eq_true rfl, Nat.le_of_ble_eq_true rfl⟩) ?_
          obtain ⟨r4, er4, h⟩ := obind h
          refine call_R (va_runV (As := [.int r3]) (rest := []) ⟨hx, hb, hml, hown, hts⟩ (c_X1_coverCount l z0 D t G ((x_wide μ), (x_high μ), (x_pond μ), (x_walls μ), (x_paved μ), (x_tc μ), (x_flips μ), (x_refused μ), (x_names μ)) r3 _ er4) (kV hts qw595 qw345 qw346 qw8 qw347 ok_X1_coverCount ⟨Nat.le_of_ble_eq_true rfl, Nat.le_of_ble_eq_true rfl⟩) ⟨PR.blind, va_recv hK (sub_X_G (μ := μ) hP) (ci := 2) (q0 := 0) rfl rfl, fun U hU hW => ⟨rfl, by rw [hU]; exact (hC.at hS hZ).warm hW, by rw [hU]; exact (sub_X_G (μ := μ) hP)⟩⟩ rfl rfl hl.1 rfl (lv_room (Nat.le_of_ble_eq_true rfl)) dX4_cell_56 ⟨Nat.le_of_ble_eq_true rfl, Nat.le_of_ble_eq_true rfl⟩) ?_
          exact absurd (Option.some.inj h) (fun z => by cases z)
        · have h := iteT hc h
          refine lv_aload_n hx hb dX4_cell_32 rfl (lv_at hl 0 rfl) ?_
          refine va_get hx hb hts inX4 hown hK hP 0 rfl rfl 4 (by decide) (hts _ qw161) (fun _ h9 => h9) rfl dX4_cell_33 ?_
          refine lv_iload_n hx hb dX4_cell_36 rfl (lv_at hl 1 rfl) ?_
          refine lv_iload_n hx hb dX4_cell_37 rfl (lv_at hl 2 rfl) ?_
          obtain ⟨r5, er5, h⟩ := obind h
          refine call_R (va_runS (As := [.int a1, .int a2]) (rest := [.ref (G 0)]) ⟨hx, hb, hml, hown, hts⟩ (c_X4_cellAt l z0 D t a1 a2 _ er5) (kS hts qw589 qw235 qw1 qw236 ok_X4_cellAt ⟨Nat.le_of_ble_eq_true rfl, Nat.le_of_ble_eq_true rfl⟩) ⟨PR.blind, fun U hU hW => ⟨rfl, by rw [hU]; exact (hC.at hS hZ).warm hW, by rw [hU]; exact va_P_nil⟩⟩ rfl rfl hl.1 rfl (lv_room (Nat.le_of_ble_eq_true rfl)) dX4_cell_38 ⟨Nat.le_of_ble_eq_true rfl, Nat.le_of_ble_eq_true rfl⟩) ?_
          obtain ⟨r6, er6, h⟩ := obind h
          refine call_R (va_runV (As := [.long r5]) (rest := []) ⟨hx, hb, hml, hown, hts⟩ (c_X1_tripleOver l z0 D t G ((x_wide μ), (x_high μ), (x_pond μ), (x_walls μ), (x_paved μ), (x_tc μ), (x_flips μ), (x_refused μ), (x_names μ)) r5 _ er6) (kV hts qw594 qw444 qw445 qw8 qw446 ok_X1_tripleOver ⟨Nat.le_of_ble_eq_true rfl, Nat.le_of_ble_eq_true rfl⟩) ⟨PR.blind, va_recv hK (sub_X_G (μ := μ) hP) (ci := 2) (q0 := 0) rfl rfl, fun U hU hW => ⟨rfl, by rw [hU]; exact (hC.at hS hZ).warm hW, by rw [hU]; exact (sub_X_G (μ := μ) hP)⟩⟩ rfl rfl hl.1 rfl (lv_room (Nat.le_of_ble_eq_true rfl)) dX4_cell_41 ⟨Nat.le_of_ble_eq_true rfl, Nat.le_of_ble_eq_true rfl⟩) ?_
          refine lv_goto (tgt := 59) hx hb dX4_cell_44 (by decide) ?_
          exact absurd (Option.some.inj h) (fun z => by cases z)
      · have h := iteT hc h
        refine lv_aload_n hx hb dX4_cell_14 rfl (lv_at hl 0 rfl) ?_
        refine va_get hx hb hts inX4 hown hK hP 0 rfl rfl 4 (by decide) (hts _ qw161) (fun _ h9 => h9) rfl dX4_cell_15 ?_
        refine lv_iload_n hx hb dX4_cell_18 rfl (lv_at hl 1 rfl) ?_
        refine lv_iload_n hx hb dX4_cell_19 rfl (lv_at hl 2 rfl) ?_
        obtain ⟨r7, er7, h⟩ := obind h
        refine call_R (va_runS (As := [.int a1, .int a2]) (rest := [.ref (G 0)]) ⟨hx, hb, hml, hown, hts⟩ (c_X4_cellAt l z0 D t a1 a2 _ er7) (kS hts qw589 qw235 qw1 qw236 ok_X4_cellAt ⟨Nat.le_of_ble_eq_true rfl, Nat.le_of_ble_eq_true rfl⟩) ⟨PR.blind, fun U hU hW => ⟨rfl, by rw [hU]; exact (hC.at hS hZ).warm hW, by rw [hU]; exact va_P_nil⟩⟩ rfl rfl hl.1 rfl (lv_room (Nat.le_of_ble_eq_true rfl)) dX4_cell_20 ⟨Nat.le_of_ble_eq_true rfl, Nat.le_of_ble_eq_true rfl⟩) ?_
        obtain ⟨r8, er8, h⟩ := obind h
        refine call_R (va_runV (As := [.long r7]) (rest := []) ⟨hx, hb, hml, hown, hts⟩ (c_X1_kindOf l z0 D t G ((x_wide μ), (x_high μ), (x_pond μ), (x_walls μ), (x_paved μ), (x_tc μ), (x_flips μ), (x_refused μ), (x_names μ)) r7 _ er8) (kV hts qw590 qw591 qw592 qw8 qw593 ok_X1_kindOf ⟨Nat.le_of_ble_eq_true rfl, Nat.le_of_ble_eq_true rfl⟩) ⟨PR.blind, va_recv hK (sub_X_G (μ := μ) hP) (ci := 2) (q0 := 0) rfl rfl, fun U hU hW => ⟨rfl, by rw [hU]; exact (hC.at hS hZ).warm hW, by rw [hU]; exact (sub_X_G (μ := μ) hP)⟩⟩ rfl rfl hl.1 rfl (lv_room (Nat.le_of_ble_eq_true rfl)) dX4_cell_23 ⟨Nat.le_of_ble_eq_true rfl, Nat.le_of_ble_eq_true rfl⟩) ?_
        exact absurd (Option.some.inj h) (fun z => by cases z)
    · replace h := sumR h
      obtain rfl := Sum.inr.inj (Option.some.inj h)
      refine call_X (vx_runS (As := [.int a3]) (rest := []) ⟨hx, hb, hml, hown, hts⟩ (x_X4_requireProperty l hl9 z0 D t a3 _ H.size er2) (kS hts qw567 qw568 qw1 qw569 ok_X4_requireProperty ⟨Nat.le_of_ble_eq_true rfl, Nat.le_of_ble_eq_true rfl⟩) ⟨PM.blind, fun U hU hW => ⟨rfl, by rw [hU]; exact (hC.at hS hZ).warm hW, by rw [hU], by rw [hU]; exact va_P_nil, ⟨(va_D_nil (A := OA [] s.heap.size)).1, fun _ _ h9 => Or.inl (in_map (L := []) rfl h9)⟩, fun q hq => hZ q (OA.nil hSz q hq)⟩⟩ rfl rfl hl.1 rfl (lv_room (Nat.le_of_ble_eq_true rfl)) dX4_cell_7 ⟨Nat.le_of_ble_eq_true rfl, Nat.le_of_ble_eq_true rfl⟩) hS (OA.nil hSz) (fun H locs q9 ce9 hP1 hD1 hS hsz1 hk1 hce hcv hcc => ?_)
      have hP : va_P D vwCl (XW x0 s0 s1 e0 E A B G T t μ) H := va_P.keptN hP hk1
      exact vx_out (fun x9 hx9 => (hT x9 hx9).elim) hlocks hce hcv hcc (fun t9 h8 _ => XM.mk2 hP hD hS h8) hS.2.2 (Nat.le_of_ble_eq_true rfl) (Nat.le_of_ble_eq_true rfl)
  · replace h := sumR h
    obtain rfl := Sum.inr.inj (Option.some.inj h)
    refine call_X (vx_runV (As := [.int a1, .int a2]) (rest := []) ⟨hx, hb, hml, hown, hts⟩ (x_X4_requireCell l hl9 z0 D t x0 s0 s1 e0 E A B G T μ a1 a2 _ H.size er1) (kV hts qw583 qw585 qs19 qw1 qw586 ok_X4_requireCell ⟨Nat.le_of_ble_eq_true rfl, Nat.le_of_ble_eq_true rfl⟩) ⟨PM.blind, va_recv hK hP (ci := 5) (q0 := 0) rfl rfl, fun U hU hW => ⟨rfl, by rw [hU]; exact (hC.at hS hZ).warm hW, by rw [hU], by rw [hU]; exact hP, ⟨hD.1, fun _ _ h9 => Or.inl (in_map (L := (XL x0 s0 s1 e0 E A B G T μ)) rfl h9)⟩, fun q hq => hZ q (OA.ofD hD rfl hSz q hq)⟩⟩ rfl rfl hl.1 rfl (lv_room (Nat.le_of_ble_eq_true rfl)) dX4_cell_3 ⟨Nat.le_of_ble_eq_true rfl, Nat.le_of_ble_eq_true rfl⟩) hS (OA.ofD hD rfl hSz) (fun H locs q9 ce9 hP1 hD1 hS hsz1 hk1 hce hcv hcc => ?_)
    have hP : va_P D vwCl (XW x0 s0 s1 e0 E A B G T t μ) H := hP1
    have hD : va_D (OA (XL x0 s0 s1 e0 E A B G T μ) s.heap.size) (XW x0 s0 s1 e0 E A B G T t μ) := hD1.weaken (fun _ q _ h9 => OA.ofD hD rfl hSz q.1 h9)
    exact vx_out (fun x9 hx9 => (hT x9 hx9).elim) hlocks hce hcv hcc (fun t9 h8 _ => XM.mk2 hP hD hS h8) hS.2.2 (Nat.le_of_ble_eq_true rfl) (Nat.le_of_ble_eq_true rfl)

abbrev rm_X4_mixedCells : Room := { frames := 8, cells := 0, slots := 0, locals := 165 }
theorem ok_X4_mixedCells : okY yX4_mixedCells 1 := ⟨by decide +kernel, by decide +kernel, by decide +kernel⟩
set_option maxHeartbeats 4000000 in
set_option maxRecDepth 100000 in
theorem c_X4_mixedCells (l : Launch) (z0 : Nat) (D : va_G) (t : Nat → ClassId) (x0 : Nat) (s0 : Nat) (s1 : Nat) (e0 : Nat) (E : Nat → Nat) (A : Nat → Nat) (B : Nat → Nat) (G : Nat → Nat) (T : va_W) (μ : XS) (a1 : Int64) (res : Int64) (h : f_X4_mixedCells μ a1 = some (.inl res)) : Met l yX4_mixedCells (ws_ yX4_mixedCells cX4_mixedCells 7 (some .long)) rm_X4_mixedCells (PR z0 D t [.ref (x0), .long a1] (XW x0 s0 s1 e0 E A B G T t μ)) (QR (some (.long res))) 0 0 FN := by
  refine Met.ofW (cc := cX4_mixedCells) (maxL := 7) (ret := (some .long)) (by decide) rfl ?_
  intro p e s m args below meth c s₁ Bo hml hv
  obtain ⟨rfl, hC, hP⟩ := hv
  have hx := Bo.exec
  have hb := Bo.bytes
  have hr := Bo.returns
  have hts : ∀ w ∈ LA, w.before _ s = true := fun w hw => atoms_spec (ws := ws_ yX4_mixedCells cX4_mixedCells 7 (some .long)) Bo.pre w (List.mem_cons_of_mem _ hw)
  have hown : s.vm.findClass RX4 = some m.cls := findClass_of_methodNamed Bo.named
  have hlocks := Bo.notSynchronized
  have hK := hC.1
  have hl := lv_entry ([.ref (x0), .long a1]) (n := 7) (Nat.le_of_ble_eq_true rfl)
  rw [lg_entry_eq]
  generalize (lg_sl ([.ref (x0), .long a1]) ++ List.replicate (7 - (lg_sl ([.ref (x0), .long a1])).length) Slot.unset).toArray = ls at hl ⊢
  have hl : lv_has ls 7 [(0, .ref (x0)), (1, .long a1)] := hl
  unfold f_X4_mixedCells at h
  refine lv_lload_n hx hb dX4_mixedCells_0 rfl (lv_at hl 1 rfl) ?_
  refine lv_lstore_n (lv' := [(3, .long a1), (0, .ref (x0)), (1, .long a1)]) hx hb dX4_mixedCells_1 rfl hl (by decide) rfl (fun ls hl => ?_)
  refine lv_iconst (v := (0)) hx hb dX4_mixedCells_2 (by decide) ?_
  refine lv_istore (lv' := [(5, .int (0 : Int32)), (3, .long a1), (0, .ref (x0)), (1, .long a1)]) hx hb dX4_mixedCells_3 hl (by decide) rfl (fun ls hl => ?_)
  obtain ⟨o35, eo35, h⟩ := obind h
  have hL5 : ∀ (n : Nat) (y3_5 : Int64) (y5_5 : Int32) (o35 : (Int64) ⊕ ((Int64) ⊕ (String))), f_X4_mixedCells_L5 μ n y3_5 y5_5 = some o35 → (∀ o35l, o35 = .inl o35l → ∀ (ls : Array Slot), lv_has ls 7 [(3, .long o35l)] → W p l e (headSpec (ws_ yX4_mixedCells cX4_mixedCells 7 (some .long)) rm_X4_mixedCells).room s m ([.ref (x0), .long a1] : List Value).toArray below meth c s.heap [] 0 0 (MQ below (QR (some (.long res))) ([.ref (x0), .long a1] : List Value).toArray s 0 0 FN) (F0 m 72 ls [])) → (∀ r9, o35 = .inr r9 → r9 = (.inl res)) → ∀ (ls : Array Slot), lv_has ls 7 [(0, .ref (x0)), (3, .long y3_5), (5, .int y5_5)] → W p l e (headSpec (ws_ yX4_mixedCells cX4_mixedCells 7 (some .long)) rm_X4_mixedCells).room s m ([.ref (x0), .long a1] : List Value).toArray below meth c s.heap [] 0 0 (MQ below (QR (some (.long res))) ([.ref (x0), .long a1] : List Value).toArray s 0 0 FN) (F0 m 5 ls []) := by
    intro n
    induction n with
    | zero => intro y3_5 y5_5 o35 h; exact absurd h (fun z => by cases z)
    | succ n ih =>
      intro y3_5 y5_5 o35 h hK5 hR5 ls hl
      replace h : f_X4_mixedCells_L5_b μ (f_X4_mixedCells_L5 μ n) y3_5 y5_5 = some o35 := h
      unfold f_X4_mixedCells_L5_b at h
      refine lv_iload hx hb dX4_mixedCells_5 (lv_at hl 2 rfl) ?_
      refine lv_aload_n hx hb dX4_mixedCells_7 rfl (lv_at hl 0 rfl) ?_
      refine va_get hx hb hts inX4 hown hK hP 0 rfl rfl 4 (by decide) (hts _ qw161) (fun _ h9 => h9) rfl dX4_mixedCells_8 ?_
      refine va_get hx hb hts inX1 hown hK hP 13 rfl rfl 1 (by decide) (hts _ qw124) (fun _ h9 => h9) rfl dX4_mixedCells_11 ?_
      refine lv_icmp_ge (tgt := 72) hx hb dX4_mixedCells_14 (by decide) (fun hc => ?_) (fun hc => ?_)
      · have h := iteT hc h
        obtain rfl := Option.some.inj h
        exact hK5 _ rfl ls (lv_sub hl [1] rfl)
      · have h := iteF hc h
        refine lv_iconst (v := (0)) hx hb dX4_mixedCells_17 (by decide) ?_
        refine lv_istore (lv' := [(6, .int (0 : Int32)), (0, .ref (x0)), (3, .long y3_5), (5, .int y5_5)]) hx hb dX4_mixedCells_18 hl (by decide) rfl (fun ls hl => ?_)
        obtain ⟨o46, eo46, h⟩ := obind h
        have hL20 : ∀ (n : Nat) (y3_20 : Int64) (y6_20 : Int32) (o46 : (Int64) ⊕ ((Int64) ⊕ (String))), f_X4_mixedCells_L20 μ y5_5 n y3_20 y6_20 = some o46 → (∀ o46l, o46 = .inl o46l → ∀ (ls : Array Slot), lv_has ls 7 [(0, .ref (x0)), (3, .long o46l), (5, .int y5_5)] → W p l e (headSpec (ws_ yX4_mixedCells cX4_mixedCells 7 (some .long)) rm_X4_mixedCells).room s m ([.ref (x0), .long a1] : List Value).toArray below meth c s.heap [] 0 0 (MQ below (QR (some (.long res))) ([.ref (x0), .long a1] : List Value).toArray s 0 0 FN) (F0 m 66 ls [])) → (∀ r9, o46 = .inr r9 → r9 = (.inl res)) → ∀ (ls : Array Slot), lv_has ls 7 [(0, .ref (x0)), (3, .long y3_20), (5, .int y5_5), (6, .int y6_20)] → W p l e (headSpec (ws_ yX4_mixedCells cX4_mixedCells 7 (some .long)) rm_X4_mixedCells).room s m ([.ref (x0), .long a1] : List Value).toArray below meth c s.heap [] 0 0 (MQ below (QR (some (.long res))) ([.ref (x0), .long a1] : List Value).toArray s 0 0 FN) (F0 m 20 ls []) := by
          intro n
          induction n with
          | zero => intro y3_20 y6_20 o46 h; exact absurd h (fun z => by cases z)
          | succ n ih =>
            intro y3_20 y6_20 o46 h hK20 hR20 ls hl
            replace h : f_X4_mixedCells_L20_b μ y5_5 (f_X4_mixedCells_L20 μ y5_5 n) y3_20 y6_20 = some o46 := h
            unfold f_X4_mixedCells_L20_b at h
            refine lv_iload hx hb dX4_mixedCells_20 (lv_at hl 3 rfl) ?_
            refine lv_aload_n hx hb dX4_mixedCells_22 rfl (lv_at hl 0 rfl) ?_
            refine va_get hx hb hts inX4 hown hK hP 0 rfl rfl 4 (by decide) (hts _ qw161) (fun _ h9 => h9) rfl dX4_mixedCells_23 ?_
            refine va_get hx hb hts inX1 hown hK hP 13 rfl rfl 0 (by decide) (hts _ qw122) (fun _ h9 => h9) rfl dX4_mixedCells_26 ?_
            refine lv_icmp_ge (tgt := 66) hx hb dX4_mixedCells_29 (by decide) (fun hc => ?_) (fun hc => ?_)
            · have h := iteT hc h
              obtain rfl := Option.some.inj h
              exact hK20 _ rfl ls (lv_sub hl [0, 1, 2] rfl)
            · have h := iteF hc h
              refine lv_lload_n hx hb dX4_mixedCells_32 rfl (lv_at hl 1 rfl) ?_
              refine lv_aload_n hx hb dX4_mixedCells_33 rfl (lv_at hl 0 rfl) ?_
              refine lv_iload hx hb dX4_mixedCells_34 (lv_at hl 3 rfl) ?_
              refine lv_iload hx hb dX4_mixedCells_36 (lv_at hl 2 rfl) ?_
              refine lv_iconst (v := (1)) hx hb dX4_mixedCells_38 (by decide) ?_
              obtain ⟨r47o, er47, h⟩ := obind h
              rcases r47o with r47 | Er47
              · replace h := sumL h
                refine call_R (va_runV (As := [.int y6_20, .int y5_5, .int (1 : Int32)]) (rest := [.long y3_20]) ⟨hx, hb, hml, hown, hts⟩ (c_X4_cell l z0 D t x0 s0 s1 e0 E A B G T μ y6_20 y5_5 (1 : Int32) _ er47) (kV hts qw579 qw580 qw581 qw1 qw582 ok_X4_cell ⟨Nat.le_of_ble_eq_true rfl, Nat.le_of_ble_eq_true rfl⟩) ⟨PR.blind, va_recv hK hP (ci := 5) (q0 := 0) rfl rfl, fun U hU hW => ⟨rfl, by rw [hU]; exact hC.warm hW, by rw [hU]; exact hP⟩⟩ rfl rfl hl.1 rfl (lv_room (Nat.le_of_ble_eq_true rfl)) dX4_mixedCells_39 ⟨Nat.le_of_ble_eq_true rfl, Nat.le_of_ble_eq_true rfl⟩) ?_
                refine lv_i2l hx hb dX4_mixedCells_42 rfl ?_
                obtain ⟨r48, er48, h⟩ := obind h
                refine call_R (va_runS (As := [.long y3_20, .long r47.toInt64]) (rest := []) ⟨hx, hb, hml, hown, hts⟩ (c_X4_mixed l z0 D t y3_20 r47.toInt64 _ er48) (kS hts qw539 qw540 qw1 qw541 ok_X4_mixed ⟨Nat.le_of_ble_eq_true rfl, Nat.le_of_ble_eq_true rfl⟩) ⟨PR.blind, fun U hU hW => ⟨rfl, by rw [hU]; exact hC.warm hW, by rw [hU]; exact va_P_nil⟩⟩ rfl rfl hl.1 rfl (lv_room (Nat.le_of_ble_eq_true rfl)) dX4_mixedCells_43 ⟨Nat.le_of_ble_eq_true rfl, Nat.le_of_ble_eq_true rfl⟩) ?_
                refine lv_aload_n hx hb dX4_mixedCells_46 rfl (lv_at hl 0 rfl) ?_
                refine lv_iload hx hb dX4_mixedCells_47 (lv_at hl 3 rfl) ?_
                refine lv_iload hx hb dX4_mixedCells_49 (lv_at hl 2 rfl) ?_
                refine lv_iconst (v := (2)) hx hb dX4_mixedCells_51 (by decide) ?_
                obtain ⟨r49o, er49, h⟩ := obind h
                rcases r49o with r49 | Er49
                · replace h := sumL h
                  refine call_R (va_runV (As := [.int y6_20, .int y5_5, .int (2 : Int32)]) (rest := [.long r48]) ⟨hx, hb, hml, hown, hts⟩ (c_X4_cell l z0 D t x0 s0 s1 e0 E A B G T μ y6_20 y5_5 (2 : Int32) _ er49) (kV hts qw579 qw580 qw581 qw1 qw582 ok_X4_cell ⟨Nat.le_of_ble_eq_true rfl, Nat.le_of_ble_eq_true rfl⟩) ⟨PR.blind, va_recv hK hP (ci := 5) (q0 := 0) rfl rfl, fun U hU hW => ⟨rfl, by rw [hU]; exact hC.warm hW, by rw [hU]; exact hP⟩⟩ rfl rfl hl.1 rfl (lv_room (Nat.le_of_ble_eq_true rfl)) dX4_mixedCells_52 ⟨Nat.le_of_ble_eq_true rfl, Nat.le_of_ble_eq_true rfl⟩) ?_
                  refine lv_i2l hx hb dX4_mixedCells_55 rfl ?_
                  obtain ⟨r50, er50, h⟩ := obind h
                  refine call_R (va_runS (As := [.long r48, .long r49.toInt64]) (rest := []) ⟨hx, hb, hml, hown, hts⟩ (c_X4_mixed l z0 D t r48 r49.toInt64 _ er50) (kS hts qw539 qw540 qw1 qw541 ok_X4_mixed ⟨Nat.le_of_ble_eq_true rfl, Nat.le_of_ble_eq_true rfl⟩) ⟨PR.blind, fun U hU hW => ⟨rfl, by rw [hU]; exact hC.warm hW, by rw [hU]; exact va_P_nil⟩⟩ rfl rfl hl.1 rfl (lv_room (Nat.le_of_ble_eq_true rfl)) dX4_mixedCells_56 ⟨Nat.le_of_ble_eq_true rfl, Nat.le_of_ble_eq_true rfl⟩) ?_
                  refine lv_lstore_n (lv' := [(3, .long r50), (0, .ref (x0)), (5, .int y5_5), (6, .int y6_20)]) hx hb dX4_mixedCells_59 rfl hl (by decide) rfl (fun ls hl => ?_)
                  obtain ⟨x51, ex51, h⟩ := jlet_some h
                  refine lv_iinc (v := x51) (lv' := [(6, .int x51), (3, .long r50), (0, .ref (x0)), (5, .int y5_5)]) hx hb dX4_mixedCells_60 hl (k := 3) rfl (by rw [ex51]; rfl) (by decide) rfl (fun ls hl => ?_)
                  refine lv_goto (tgt := 20) hx hb dX4_mixedCells_63 (by decide) ?_
                  exact ih _ _ _ h hK20 hR20 ls (lv_sub hl [2, 1, 3, 0] rfl)
                · replace h := sumR h
                  have e9 := hR20 _ (Option.some.inj h).symm
                  exact absurd e9 (fun z => by cases z)
              · replace h := sumR h
                have e9 := hR20 _ (Option.some.inj h).symm
                exact absurd e9 (fun z => by cases z)
        refine hL20 _ _ _ _ eo46 (fun o46l eq9 ls hl => ?_) (fun r9 eq9 => ?_) ls (lv_sub hl [1, 2, 3, 0] rfl)
        · subst eq9
          replace h := sumL h
          obtain ⟨x52, ex52, h⟩ := jlet_some h
          refine lv_iinc (v := x52) (lv' := [(5, .int x52), (0, .ref (x0)), (3, .long o46l)]) hx hb dX4_mixedCells_66 hl (k := 2) rfl (by rw [ex52]; rfl) (by decide) rfl (fun ls hl => ?_)
          refine lv_goto (tgt := 5) hx hb dX4_mixedCells_69 (by decide) ?_
          exact ih _ _ _ h hK5 hR5 ls (lv_sub hl [1, 2, 0] rfl)
        · subst eq9
          replace h := sumR h
          exact hR5 _ (Option.some.inj h).symm
  refine hL5 _ _ _ _ eo35 (fun o35l eq9 ls hl => ?_) (fun r9 eq9 => ?_) ls (lv_sub hl [2, 1, 0] rfl)
  · subst eq9
    replace h := sumL h
    refine lv_lload_n hx hb dX4_mixedCells_72 rfl (lv_at hl 0 rfl) ?_
    obtain rfl := Sum.inl.inj (Option.some.inj h)
    exact W.lret hx hb hr (fun t ht hW => ⟨rfl, ht⟩) (fun q hq => absurd hq List.not_mem_nil) dX4_mixedCells_73
  · subst eq9
    replace h := sumR h
    exact Option.some.inj h

abbrev rx_X4_mixedCells : Room := { frames := 8, cells := 1, slots := 6, locals := 165 }
set_option maxHeartbeats 4000000 in
set_option maxRecDepth 100000 in
theorem x_X4_mixedCells (l : Launch) (hl9 : l.stackTraces = false) (z0 : Nat) (D : va_G) (t : Nat → ClassId) (x0 : Nat) (s0 : Nat) (s1 : Nat) (e0 : Nat) (E : Nat → Nat) (A : Nat → Nat) (B : Nat → Nat) (G : Nat → Nat) (T : va_W) (μ : XS) (a1 : Int64) (xE : String) (sz : Nat) (h : f_X4_mixedCells μ a1 = some (.inr xE)) : vx_Met l yX4_mixedCells (ws_ yX4_mixedCells cX4_mixedCells 7 (some .long)) rx_X4_mixedCells (PM z0 D t [.ref (x0), .long a1] (XW x0 s0 s1 e0 E A B G T t μ) (XL x0 s0 s1 e0 E A B G T μ) sz) (fun _ _ _ _ => False) (XM xE D (XW x0 s0 s1 e0 E A B G T t μ) (XL x0 s0 s1 e0 E A B G T μ) sz) 1 6 (OA (XL x0 s0 s1 e0 E A B G T μ) sz) := by
  refine vx_ofW (cc := cX4_mixedCells) (maxL := 7) (ret := (some .long)) (by decide) rfl ?_
  intro p e s m args below meth c s₁ Bo hml hT hv
  obtain ⟨rfl, hC, hsz, hP, hD, hZ⟩ := hv
  have hx := Bo.exec
  have hb := Bo.bytes
  have hr := Bo.returns
  have hts : ∀ w ∈ LA, w.before _ s = true := fun w hw => atoms_spec (ws := ws_ yX4_mixedCells cX4_mixedCells 7 (some .long)) Bo.pre w (List.mem_cons_of_mem _ hw)
  have hown : s.vm.findClass RX4 = some m.cls := findClass_of_methodNamed Bo.named
  have hlocks := Bo.notSynchronized
  have hK := hC.1
  subst hsz
  have hl := lv_entry ([.ref (x0), .long a1]) (n := 7) (Nat.le_of_ble_eq_true rfl)
  rw [lg_entry_eq]
  generalize (lg_sl ([.ref (x0), .long a1]) ++ List.replicate (7 - (lg_sl ([.ref (x0), .long a1])).length) Slot.unset).toArray = ls at hl ⊢
  have hl : lv_has ls 7 [(0, .ref (x0)), (1, .long a1)] := hl
  suffices K9 : ∀ (H : Heap) (locs : List Loc), va_P D vwCl (XW x0 s0 s1 e0 E A B G T t μ) H → va_S (OA (XL x0 s0 s1 e0 E A B G T μ) s.heap.size) s.heap H locs → W p l e (headSpec (ws_ yX4_mixedCells cX4_mixedCells 7 (some .long)) rx_X4_mixedCells).room s m ([.ref (x0), .long a1] : List Value).toArray below meth c H locs 0 0 (vx_MQ below (fun _ _ _ _ => False) (XM xE D (XW x0 s0 s1 e0 E A B G T t μ) (XL x0 s0 s1 e0 E A B G T μ) s.heap.size) ([.ref (x0), .long a1] : List Value).toArray s 1 6 (OA (XL x0 s0 s1 e0 E A B G T μ) s.heap.size)) (F0 m 0 ls []) from K9 s.heap [] hP va_S.rf
  intro H locs hP hS
  have hSz : s.heap.size ≤ H.size := hS.1
  unfold f_X4_mixedCells at h
  refine lv_lload_n hx hb dX4_mixedCells_0 rfl (lv_at hl 1 rfl) ?_
  refine lv_lstore_n (lv' := [(3, .long a1), (0, .ref (x0)), (1, .long a1)]) hx hb dX4_mixedCells_1 rfl hl (by decide) rfl (fun ls hl => ?_)
  refine lv_iconst (v := (0)) hx hb dX4_mixedCells_2 (by decide) ?_
  refine lv_istore (lv' := [(5, .int (0 : Int32)), (3, .long a1), (0, .ref (x0)), (1, .long a1)]) hx hb dX4_mixedCells_3 hl (by decide) rfl (fun ls hl => ?_)
  obtain ⟨o35, eo35, h⟩ := obind h
  have hL5 : ∀ (n : Nat) (y3_5 : Int64) (y5_5 : Int32) (o35 : (Int64) ⊕ ((Int64) ⊕ (String))), f_X4_mixedCells_L5 μ n y3_5 y5_5 = some o35 → (∀ o35l, o35 = .inl o35l → ∀ (ls : Array Slot) (H : Heap) (locs : List Loc), lv_has ls 7 [(3, .long o35l)] → va_P D vwCl (XW x0 s0 s1 e0 E A B G T t μ) H → va_D (OA (XL x0 s0 s1 e0 E A B G T μ) s.heap.size) (XW x0 s0 s1 e0 E A B G T t μ) → va_S (OA (XL x0 s0 s1 e0 E A B G T μ) s.heap.size) s.heap H locs → W p l e (headSpec (ws_ yX4_mixedCells cX4_mixedCells 7 (some .long)) rx_X4_mixedCells).room s m ([.ref (x0), .long a1] : List Value).toArray below meth c H locs 0 0 (vx_MQ below (fun _ _ _ _ => False) (XM xE D (XW x0 s0 s1 e0 E A B G T t μ) (XL x0 s0 s1 e0 E A B G T μ) s.heap.size) ([.ref (x0), .long a1] : List Value).toArray s 1 6 (OA (XL x0 s0 s1 e0 E A B G T μ) s.heap.size)) (F0 m 72 ls [])) → (∀ r9, o35 = .inr r9 → r9 = (.inr xE)) → ∀ (ls : Array Slot) (H : Heap) (locs : List Loc), lv_has ls 7 [(0, .ref (x0)), (3, .long y3_5), (5, .int y5_5)] → va_P D vwCl (XW x0 s0 s1 e0 E A B G T t μ) H → va_D (OA (XL x0 s0 s1 e0 E A B G T μ) s.heap.size) (XW x0 s0 s1 e0 E A B G T t μ) → va_S (OA (XL x0 s0 s1 e0 E A B G T μ) s.heap.size) s.heap H locs → W p l e (headSpec (ws_ yX4_mixedCells cX4_mixedCells 7 (some .long)) rx_X4_mixedCells).room s m ([.ref (x0), .long a1] : List Value).toArray below meth c H locs 0 0 (vx_MQ below (fun _ _ _ _ => False) (XM xE D (XW x0 s0 s1 e0 E A B G T t μ) (XL x0 s0 s1 e0 E A B G T μ) s.heap.size) ([.ref (x0), .long a1] : List Value).toArray s 1 6 (OA (XL x0 s0 s1 e0 E A B G T μ) s.heap.size)) (F0 m 5 ls []) := by
    intro n
    induction n with
    | zero => intro y3_5 y5_5 o35 h; exact absurd h (fun z => by cases z)
    | succ n ih =>
      intro y3_5 y5_5 o35 h hK5 hR5 ls H locs hl hP hD hS
      replace h : f_X4_mixedCells_L5_b μ (f_X4_mixedCells_L5 μ n) y3_5 y5_5 = some o35 := h
      unfold f_X4_mixedCells_L5_b at h
      have hSz : s.heap.size ≤ H.size := hS.1
      refine lv_iload hx hb dX4_mixedCells_5 (lv_at hl 2 rfl) ?_
      refine lv_aload_n hx hb dX4_mixedCells_7 rfl (lv_at hl 0 rfl) ?_
      refine va_get hx hb hts inX4 hown hK hP 0 rfl rfl 4 (by decide) (hts _ qw161) (fun _ h9 => h9) rfl dX4_mixedCells_8 ?_
      refine va_get hx hb hts inX1 hown hK hP 13 rfl rfl 1 (by decide) (hts _ qw124) (fun _ h9 => h9) rfl dX4_mixedCells_11 ?_
      refine lv_icmp_ge (tgt := 72) hx hb dX4_mixedCells_14 (by decide) (fun hc => ?_) (fun hc => ?_)
      · have h := iteT hc h
        obtain rfl := Option.some.inj h
        exact hK5 _ rfl ls H locs (lv_sub hl [1] rfl) hP hD hS
      · have h := iteF hc h
        refine lv_iconst (v := (0)) hx hb dX4_mixedCells_17 (by decide) ?_
        refine lv_istore (lv' := [(6, .int (0 : Int32)), (0, .ref (x0)), (3, .long y3_5), (5, .int y5_5)]) hx hb dX4_mixedCells_18 hl (by decide) rfl (fun ls hl => ?_)
        obtain ⟨o46, eo46, h⟩ := obind h
        have hL20 : ∀ (n : Nat) (y3_20 : Int64) (y6_20 : Int32) (o46 : (Int64) ⊕ ((Int64) ⊕ (String))), f_X4_mixedCells_L20 μ y5_5 n y3_20 y6_20 = some o46 → (∀ o46l, o46 = .inl o46l → ∀ (ls : Array Slot) (H : Heap) (locs : List Loc), lv_has ls 7 [(0, .ref (x0)), (3, .long o46l), (5, .int y5_5)] → va_P D vwCl (XW x0 s0 s1 e0 E A B G T t μ) H → va_D (OA (XL x0 s0 s1 e0 E A B G T μ) s.heap.size) (XW x0 s0 s1 e0 E A B G T t μ) → va_S (OA (XL x0 s0 s1 e0 E A B G T μ) s.heap.size) s.heap H locs → W p l e (headSpec (ws_ yX4_mixedCells cX4_mixedCells 7 (some .long)) rx_X4_mixedCells).room s m ([.ref (x0), .long a1] : List Value).toArray below meth c H locs 0 0 (vx_MQ below (fun _ _ _ _ => False) (XM xE D (XW x0 s0 s1 e0 E A B G T t μ) (XL x0 s0 s1 e0 E A B G T μ) s.heap.size) ([.ref (x0), .long a1] : List Value).toArray s 1 6 (OA (XL x0 s0 s1 e0 E A B G T μ) s.heap.size)) (F0 m 66 ls [])) → (∀ r9, o46 = .inr r9 → r9 = (.inr xE)) → ∀ (ls : Array Slot) (H : Heap) (locs : List Loc), lv_has ls 7 [(0, .ref (x0)), (3, .long y3_20), (5, .int y5_5), (6, .int y6_20)] → va_P D vwCl (XW x0 s0 s1 e0 E A B G T t μ) H → va_D (OA (XL x0 s0 s1 e0 E A B G T μ) s.heap.size) (XW x0 s0 s1 e0 E A B G T t μ) → va_S (OA (XL x0 s0 s1 e0 E A B G T μ) s.heap.size) s.heap H locs → W p l e (headSpec (ws_ yX4_mixedCells cX4_mixedCells 7 (some .long)) rx_X4_mixedCells).room s m ([.ref (x0), .long a1] : List Value).toArray below meth c H locs 0 0 (vx_MQ below (fun _ _ _ _ => False) (XM xE D (XW x0 s0 s1 e0 E A B G T t μ) (XL x0 s0 s1 e0 E A B G T μ) s.heap.size) ([.ref (x0), .long a1] : List Value).toArray s 1 6 (OA (XL x0 s0 s1 e0 E A B G T μ) s.heap.size)) (F0 m 20 ls []) := by
          intro n
          induction n with
          | zero => intro y3_20 y6_20 o46 h; exact absurd h (fun z => by cases z)
          | succ n ih =>
            intro y3_20 y6_20 o46 h hK20 hR20 ls H locs hl hP hD hS
            replace h : f_X4_mixedCells_L20_b μ y5_5 (f_X4_mixedCells_L20 μ y5_5 n) y3_20 y6_20 = some o46 := h
            unfold f_X4_mixedCells_L20_b at h
            have hSz : s.heap.size ≤ H.size := hS.1
            refine lv_iload hx hb dX4_mixedCells_20 (lv_at hl 3 rfl) ?_
            refine lv_aload_n hx hb dX4_mixedCells_22 rfl (lv_at hl 0 rfl) ?_
            refine va_get hx hb hts inX4 hown hK hP 0 rfl rfl 4 (by decide) (hts _ qw161) (fun _ h9 => h9) rfl dX4_mixedCells_23 ?_
            refine va_get hx hb hts inX1 hown hK hP 13 rfl rfl 0 (by decide) (hts _ qw122) (fun _ h9 => h9) rfl dX4_mixedCells_26 ?_
            refine lv_icmp_ge (tgt := 66) hx hb dX4_mixedCells_29 (by decide) (fun hc => ?_) (fun hc => ?_)
            · have h := iteT hc h
              obtain rfl := Option.some.inj h
              exact hK20 _ rfl ls H locs (lv_sub hl [0, 1, 2] rfl) hP hD hS
            · have h := iteF hc h
              refine lv_lload_n hx hb dX4_mixedCells_32 rfl (lv_at hl 1 rfl) ?_
              refine lv_aload_n hx hb dX4_mixedCells_33 rfl (lv_at hl 0 rfl) ?_
              refine lv_iload hx hb dX4_mixedCells_34 (lv_at hl 3 rfl) ?_
              refine lv_iload hx hb dX4_mixedCells_36 (lv_at hl 2 rfl) ?_
              refine lv_iconst (v := (1)) hx hb dX4_mixedCells_38 (by decide) ?_
              obtain ⟨r47o, er47, h⟩ := obind h
              rcases r47o with r47 | Er47
              · replace h := sumL h
                refine call_R (va_runV (As := [.int y6_20, .int y5_5, .int (1 : Int32)]) (rest := [.long y3_20]) ⟨hx, hb, hml, hown, hts⟩ (c_X4_cell l z0 D t x0 s0 s1 e0 E A B G T μ y6_20 y5_5 (1 : Int32) _ er47) (kV hts qw579 qw580 qw581 qw1 qw582 ok_X4_cell ⟨Nat.le_of_ble_eq_true rfl, Nat.le_of_ble_eq_true rfl⟩) ⟨PR.blind, va_recv hK hP (ci := 5) (q0 := 0) rfl rfl, fun U hU hW => ⟨rfl, by rw [hU]; exact (hC.at hS hZ).warm hW, by rw [hU]; exact hP⟩⟩ rfl rfl hl.1 rfl (lv_room (Nat.le_of_ble_eq_true rfl)) dX4_mixedCells_39 ⟨Nat.le_of_ble_eq_true rfl, Nat.le_of_ble_eq_true rfl⟩) ?_
                refine lv_i2l hx hb dX4_mixedCells_42 rfl ?_
                obtain ⟨r48, er48, h⟩ := obind h
                refine call_R (va_runS (As := [.long y3_20, .long r47.toInt64]) (rest := []) ⟨hx, hb, hml, hown, hts⟩ (c_X4_mixed l z0 D t y3_20 r47.toInt64 _ er48) (kS hts qw539 qw540 qw1 qw541 ok_X4_mixed ⟨Nat.le_of_ble_eq_true rfl, Nat.le_of_ble_eq_true rfl⟩) ⟨PR.blind, fun U hU hW => ⟨rfl, by rw [hU]; exact (hC.at hS hZ).warm hW, by rw [hU]; exact va_P_nil⟩⟩ rfl rfl hl.1 rfl (lv_room (Nat.le_of_ble_eq_true rfl)) dX4_mixedCells_43 ⟨Nat.le_of_ble_eq_true rfl, Nat.le_of_ble_eq_true rfl⟩) ?_
                refine lv_aload_n hx hb dX4_mixedCells_46 rfl (lv_at hl 0 rfl) ?_
                refine lv_iload hx hb dX4_mixedCells_47 (lv_at hl 3 rfl) ?_
                refine lv_iload hx hb dX4_mixedCells_49 (lv_at hl 2 rfl) ?_
                refine lv_iconst (v := (2)) hx hb dX4_mixedCells_51 (by decide) ?_
                obtain ⟨r49o, er49, h⟩ := obind h
                rcases r49o with r49 | Er49
                · replace h := sumL h
                  refine call_R (va_runV (As := [.int y6_20, .int y5_5, .int (2 : Int32)]) (rest := [.long r48]) ⟨hx, hb, hml, hown, hts⟩ (c_X4_cell l z0 D t x0 s0 s1 e0 E A B G T μ y6_20 y5_5 (2 : Int32) _ er49) (kV hts qw579 qw580 qw581 qw1 qw582 ok_X4_cell ⟨Nat.le_of_ble_eq_true rfl, Nat.le_of_ble_eq_true rfl⟩) ⟨PR.blind, va_recv hK hP (ci := 5) (q0 := 0) rfl rfl, fun U hU hW => ⟨rfl, by rw [hU]; exact (hC.at hS hZ).warm hW, by rw [hU]; exact hP⟩⟩ rfl rfl hl.1 rfl (lv_room (Nat.le_of_ble_eq_true rfl)) dX4_mixedCells_52 ⟨Nat.le_of_ble_eq_true rfl, Nat.le_of_ble_eq_true rfl⟩) ?_
                  refine lv_i2l hx hb dX4_mixedCells_55 rfl ?_
                  obtain ⟨r50, er50, h⟩ := obind h
                  refine call_R (va_runS (As := [.long r48, .long r49.toInt64]) (rest := []) ⟨hx, hb, hml, hown, hts⟩ (c_X4_mixed l z0 D t r48 r49.toInt64 _ er50) (kS hts qw539 qw540 qw1 qw541 ok_X4_mixed ⟨Nat.le_of_ble_eq_true rfl, Nat.le_of_ble_eq_true rfl⟩) ⟨PR.blind, fun U hU hW => ⟨rfl, by rw [hU]; exact (hC.at hS hZ).warm hW, by rw [hU]; exact va_P_nil⟩⟩ rfl rfl hl.1 rfl (lv_room (Nat.le_of_ble_eq_true rfl)) dX4_mixedCells_56 ⟨Nat.le_of_ble_eq_true rfl, Nat.le_of_ble_eq_true rfl⟩) ?_
                  refine lv_lstore_n (lv' := [(3, .long r50), (0, .ref (x0)), (5, .int y5_5), (6, .int y6_20)]) hx hb dX4_mixedCells_59 rfl hl (by decide) rfl (fun ls hl => ?_)
                  obtain ⟨x51, ex51, h⟩ := jlet_some h
                  refine lv_iinc (v := x51) (lv' := [(6, .int x51), (3, .long r50), (0, .ref (x0)), (5, .int y5_5)]) hx hb dX4_mixedCells_60 hl (k := 3) rfl (by rw [ex51]; rfl) (by decide) rfl (fun ls hl => ?_)
                  refine lv_goto (tgt := 20) hx hb dX4_mixedCells_63 (by decide) ?_
                  exact ih _ _ _ h hK20 hR20 ls H locs (lv_sub hl [2, 1, 3, 0] rfl) hP hD hS
                · replace h := sumR h
                  have e9 := hR20 _ (Option.some.inj h).symm
                  obtain rfl := Sum.inr.inj e9
                  refine call_X (vx_runV (As := [.int y6_20, .int y5_5, .int (2 : Int32)]) (rest := [.long r48]) ⟨hx, hb, hml, hown, hts⟩ (x_X4_cell l hl9 z0 D t x0 s0 s1 e0 E A B G T μ y6_20 y5_5 (2 : Int32) _ H.size er49) (kV hts qw579 qw580 qw581 qw1 qw582 ok_X4_cell ⟨Nat.le_of_ble_eq_true rfl, Nat.le_of_ble_eq_true rfl⟩) ⟨PM.blind, va_recv hK hP (ci := 5) (q0 := 0) rfl rfl, fun U hU hW => ⟨rfl, by rw [hU]; exact (hC.at hS hZ).warm hW, by rw [hU], by rw [hU]; exact hP, ⟨hD.1, fun _ _ h9 => Or.inl (in_map (L := (XL x0 s0 s1 e0 E A B G T μ)) rfl h9)⟩, fun q hq => hZ q (OA.ofD hD rfl hSz q hq)⟩⟩ rfl rfl hl.1 rfl (lv_room (Nat.le_of_ble_eq_true rfl)) dX4_mixedCells_52 ⟨Nat.le_of_ble_eq_true rfl, Nat.le_of_ble_eq_true rfl⟩) hS (OA.ofD hD rfl hSz) (fun H locs q9 ce9 hP1 hD1 hS hsz1 hk1 hce hcv hcc => ?_)
                  have hP : va_P D vwCl (XW x0 s0 s1 e0 E A B G T t μ) H := hP1
                  have hD : va_D (OA (XL x0 s0 s1 e0 E A B G T μ) s.heap.size) (XW x0 s0 s1 e0 E A B G T t μ) := hD1.weaken (fun _ q _ h9 => OA.ofD hD rfl hSz q.1 h9)
                  exact vx_out (fun x9 hx9 => (hT x9 hx9).elim) hlocks hce hcv hcc (fun t9 h8 _ => XM.mk2 hP hD hS h8) hS.2.2 (Nat.le_of_ble_eq_true rfl) (Nat.le_of_ble_eq_true rfl)
              · replace h := sumR h
                have e9 := hR20 _ (Option.some.inj h).symm
                obtain rfl := Sum.inr.inj e9
                refine call_X (vx_runV (As := [.int y6_20, .int y5_5, .int (1 : Int32)]) (rest := [.long y3_20]) ⟨hx, hb, hml, hown, hts⟩ (x_X4_cell l hl9 z0 D t x0 s0 s1 e0 E A B G T μ y6_20 y5_5 (1 : Int32) _ H.size er47) (kV hts qw579 qw580 qw581 qw1 qw582 ok_X4_cell ⟨Nat.le_of_ble_eq_true rfl, Nat.le_of_ble_eq_true rfl⟩) ⟨PM.blind, va_recv hK hP (ci := 5) (q0 := 0) rfl rfl, fun U hU hW => ⟨rfl, by rw [hU]; exact (hC.at hS hZ).warm hW, by rw [hU], by rw [hU]; exact hP, ⟨hD.1, fun _ _ h9 => Or.inl (in_map (L := (XL x0 s0 s1 e0 E A B G T μ)) rfl h9)⟩, fun q hq => hZ q (OA.ofD hD rfl hSz q hq)⟩⟩ rfl rfl hl.1 rfl (lv_room (Nat.le_of_ble_eq_true rfl)) dX4_mixedCells_39 ⟨Nat.le_of_ble_eq_true rfl, Nat.le_of_ble_eq_true rfl⟩) hS (OA.ofD hD rfl hSz) (fun H locs q9 ce9 hP1 hD1 hS hsz1 hk1 hce hcv hcc => ?_)
                have hP : va_P D vwCl (XW x0 s0 s1 e0 E A B G T t μ) H := hP1
                have hD : va_D (OA (XL x0 s0 s1 e0 E A B G T μ) s.heap.size) (XW x0 s0 s1 e0 E A B G T t μ) := hD1.weaken (fun _ q _ h9 => OA.ofD hD rfl hSz q.1 h9)
                exact vx_out (fun x9 hx9 => (hT x9 hx9).elim) hlocks hce hcv hcc (fun t9 h8 _ => XM.mk2 hP hD hS h8) hS.2.2 (Nat.le_of_ble_eq_true rfl) (Nat.le_of_ble_eq_true rfl)
        refine hL20 _ _ _ _ eo46 (fun o46l eq9 ls H locs hl hP hD hS => ?_) (fun r9 eq9 => ?_) ls H locs (lv_sub hl [1, 2, 3, 0] rfl) hP hD hS
        · subst eq9
          replace h := sumL h
          have hSz : s.heap.size ≤ H.size := hS.1
          obtain ⟨x52, ex52, h⟩ := jlet_some h
          refine lv_iinc (v := x52) (lv' := [(5, .int x52), (0, .ref (x0)), (3, .long o46l)]) hx hb dX4_mixedCells_66 hl (k := 2) rfl (by rw [ex52]; rfl) (by decide) rfl (fun ls hl => ?_)
          refine lv_goto (tgt := 5) hx hb dX4_mixedCells_69 (by decide) ?_
          exact ih _ _ _ h hK5 hR5 ls H locs (lv_sub hl [1, 2, 0] rfl) hP hD hS
        · subst eq9
          replace h := sumR h
          exact hR5 _ (Option.some.inj h).symm
  refine hL5 _ _ _ _ eo35 (fun o35l eq9 ls H locs hl hP hD hS => ?_) (fun r9 eq9 => ?_) ls H locs (lv_sub hl [2, 1, 0] rfl) hP hD hS
  · subst eq9
    replace h := sumL h
    have hSz : s.heap.size ≤ H.size := hS.1
    refine lv_lload_n hx hb dX4_mixedCells_72 rfl (lv_at hl 0 rfl) ?_
    exact absurd (Option.some.inj h) (fun z => by cases z)
  · subst eq9
    replace h := sumR h
    exact Option.some.inj h

abbrev rm_X4_triple : Room := { frames := 7, cells := 0, slots := 0, locals := 140 }
theorem ok_X4_triple : okY yX4_triple 2 := ⟨by decide +kernel, by decide +kernel, by decide +kernel⟩
set_option maxHeartbeats 4000000 in
set_option maxRecDepth 100000 in
theorem c_X4_triple (l : Launch) (z0 : Nat) (D : va_G) (t : Nat → ClassId) (x0 : Nat) (s0 : Nat) (s1 : Nat) (e0 : Nat) (E : Nat → Nat) (A : Nat → Nat) (B : Nat → Nat) (G : Nat → Nat) (T : va_W) (μ : XS) (a1 : Int32) (a2 : Int32) (res : Int32) (h : f_X4_triple μ a1 a2 = some (.inl res)) : Met l yX4_triple (ws_ yX4_triple cX4_triple 4 (some .int)) rm_X4_triple (PR z0 D t [.ref (x0), .int a1, .int a2] (XW x0 s0 s1 e0 E A B G T t μ)) (QR (some (.int res))) 0 0 FN := by
  refine Met.ofW (cc := cX4_triple) (maxL := 4) (ret := (some .int)) (by decide) rfl ?_
  intro p e s m args below meth c s₁ Bo hml hv
  obtain ⟨rfl, hC, hP⟩ := hv
  have hx := Bo.exec
  have hb := Bo.bytes
  have hr := Bo.returns
  have hts : ∀ w ∈ LA, w.before _ s = true := fun w hw => atoms_spec (ws := ws_ yX4_triple cX4_triple 4 (some .int)) Bo.pre w (List.mem_cons_of_mem _ hw)
  have hown : s.vm.findClass RX4 = some m.cls := findClass_of_methodNamed Bo.named
  have hlocks := Bo.notSynchronized
  have hK := hC.1
  have hl := lv_entry ([.ref (x0), .int a1, .int a2]) (n := 4) (Nat.le_of_ble_eq_true rfl)
  rw [lg_entry_eq]
  generalize (lg_sl ([.ref (x0), .int a1, .int a2]) ++ List.replicate (4 - (lg_sl ([.ref (x0), .int a1, .int a2])).length) Slot.unset).toArray = ls at hl ⊢
  have hl : lv_has ls 4 [(0, .ref (x0)), (1, .int a1), (2, .int a2)] := hl
  unfold f_X4_triple at h
  refine lv_iload_n hx hb dX4_triple_0 rfl (lv_at hl 1 rfl) ?_
  refine lv_if_lt (tgt := 15) hx hb dX4_triple_1 (by decide) (fun hc => ?_) (fun hc => ?_)
  · have h := iteT hc h
    exact absurd (Option.some.inj h) (fun z => by cases z)
  · have h := iteF hc h
    refine lv_iload_n hx hb dX4_triple_4 rfl (lv_at hl 1 rfl) ?_
    refine lv_aload_n hx hb dX4_triple_5 rfl (lv_at hl 0 rfl) ?_
    refine va_get hx hb hts inX4 hown hK hP 0 rfl rfl 4 (by decide) (hts _ qw161) (fun _ h9 => h9) rfl dX4_triple_6 ?_
    refine va_get hx hb hts inX1 hown hK hP 13 rfl rfl 5 (by decide) (hts _ qw132) (fun _ h9 => h9) rfl dX4_triple_9 ?_
    refine lv_icmp_lt (tgt := 25) hx hb dX4_triple_12 (by decide) (fun hc => ?_) (fun hc => ?_)
    · have h := iteT hc h
      refine lv_iload_n hx hb dX4_triple_25 rfl (lv_at hl 2 rfl) ?_
      obtain ⟨r1o, er1, h⟩ := obind h
      rcases r1o with r1 | Er1
      · replace h := sumL h
        refine call_R (va_runS (As := [.int a2]) (rest := []) ⟨hx, hb, hml, hown, hts⟩ (c_X4_requireProperty l z0 D t a2 _ er1) (kS hts qw567 qw568 qw1 qw569 ok_X4_requireProperty ⟨Nat.le_of_ble_eq_true rfl, Nat.le_of_ble_eq_true rfl⟩) ⟨PR.blind, fun U hU hW => ⟨rfl, by rw [hU]; exact hC.warm hW, by rw [hU]; exact va_P_nil⟩⟩ rfl rfl hl.1 rfl (lv_room (Nat.le_of_ble_eq_true rfl)) dX4_triple_26 ⟨Nat.le_of_ble_eq_true rfl, Nat.le_of_ble_eq_true rfl⟩) ?_
        refine lv_aload_n hx hb dX4_triple_29 rfl (lv_at hl 0 rfl) ?_
        refine va_get hx hb hts inX4 hown hK hP 0 rfl rfl 4 (by decide) (hts _ qw161) (fun _ h9 => h9) rfl dX4_triple_30 ?_
        refine lv_iload_n hx hb dX4_triple_33 rfl (lv_at hl 1 rfl) ?_
        obtain ⟨r2, er2, h⟩ := obind h
        refine call_R (va_runV (As := [.int a1]) (rest := []) ⟨hx, hb, hml, hown, hts⟩ (c_X1_tripleName l z0 D t G ((x_wide μ), (x_high μ), (x_pond μ), (x_walls μ), (x_paved μ), (x_tc μ), (x_flips μ), (x_refused μ), (x_names μ)) a1 _ er2) (kV hts qw605 qw452 qw453 qw8 qw454 ok_X1_tripleName ⟨Nat.le_of_ble_eq_true rfl, Nat.le_of_ble_eq_true rfl⟩) ⟨PR.blind, va_recv hK (sub_X_G (μ := μ) hP) (ci := 2) (q0 := 0) rfl rfl, fun U hU hW => ⟨rfl, by rw [hU]; exact hC.warm hW, by rw [hU]; exact (sub_X_G (μ := μ) hP)⟩⟩ rfl rfl hl.1 rfl (lv_room (Nat.le_of_ble_eq_true rfl)) dX4_triple_34 ⟨Nat.le_of_ble_eq_true rfl, Nat.le_of_ble_eq_true rfl⟩) ?_
        refine lv_istore_n (lv' := [(3, .int r2), (0, .ref (x0)), (1, .int a1), (2, .int a2)]) hx hb dX4_triple_37 rfl hl (by decide) rfl (fun ls hl => ?_)
        refine lv_iload_n hx hb dX4_triple_38 rfl (lv_at hl 3 rfl) ?_
        refine lv_if_ne (tgt := 47) hx hb dX4_triple_39 (by decide) (fun hc => ?_) (fun hc => ?_)
        · have h := iteF hc h
          refine lv_iload_n hx hb dX4_triple_47 rfl (lv_at hl 3 rfl) ?_
          refine lv_iconst (v := (1)) hx hb dX4_triple_48 (by decide) ?_
          refine lv_icmp_ne (tgt := 59) hx hb dX4_triple_49 (by decide) (fun hc => ?_) (fun hc => ?_)
          · have h := iteF hc h
            refine lv_iload_n hx hb dX4_triple_59 rfl (lv_at hl 0 rfl) ?_
            obtain ⟨r3, er3, h⟩ := obind h
            refine call_R (va_runS (As := [.int r2]) (rest := []) ⟨hx, hb, hml, hown, hts⟩ (c_X4_turnOf l z0 D t r2 _ er3) (kS hts qw608 qw462 qw1 qw463 ok_X4_turnOf ⟨Nat.le_of_ble_eq_true rfl, Nat.le_of_ble_eq_true rfl⟩) ⟨PR.blind, fun U hU hW => ⟨rfl, by rw [hU]; exact hC.warm hW, by rw [hU]; exact va_P_nil⟩⟩ rfl rfl hl.1 rfl (lv_room (Nat.le_of_ble_eq_true rfl)) dX4_triple_60 ⟨Nat.le_of_ble_eq_true rfl, Nat.le_of_ble_eq_true rfl⟩) ?_
            obtain rfl := Sum.inl.inj (Option.some.inj h)
            exact W.iret hx hb hr (fun t ht hW => ⟨rfl, ht⟩) (fun q hq => absurd hq List.not_mem_nil) dX4_triple_63
          · have h := iteT hc h
            refine lv_iload_n hx hb dX4_triple_52 rfl (lv_at hl 0 rfl) ?_
            obtain ⟨r4, er4, h⟩ := obind h
            refine call_R (va_runS (As := [.int r2]) (rest := []) ⟨hx, hb, hml, hown, hts⟩ (c_X4_rowOf l z0 D t r2 _ er4) (kS hts qw607 qw459 qw1 qw460 ok_X4_rowOf ⟨Nat.le_of_ble_eq_true rfl, Nat.le_of_ble_eq_true rfl⟩) ⟨PR.blind, fun U hU hW => ⟨rfl, by rw [hU]; exact hC.warm hW, by rw [hU]; exact va_P_nil⟩⟩ rfl rfl hl.1 rfl (lv_room (Nat.le_of_ble_eq_true rfl)) dX4_triple_53 ⟨Nat.le_of_ble_eq_true rfl, Nat.le_of_ble_eq_true rfl⟩) ?_
            refine lv_goto (tgt := 63) hx hb dX4_triple_56 (by decide) ?_
            obtain rfl := Sum.inl.inj (Option.some.inj h)
            exact W.iret hx hb hr (fun t ht hW => ⟨rfl, ht⟩) (fun q hq => absurd hq List.not_mem_nil) dX4_triple_63
        · have h := iteT hc h
          refine lv_iload_n hx hb dX4_triple_42 rfl (lv_at hl 0 rfl) ?_
          obtain ⟨r5, er5, h⟩ := obind h
          refine call_R (va_runS (As := [.int r2]) (rest := []) ⟨hx, hb, hml, hown, hts⟩ (c_X4_columnOf l z0 D t r2 _ er5) (kS hts qw606 qw456 qw1 qw457 ok_X4_columnOf ⟨Nat.le_of_ble_eq_true rfl, Nat.le_of_ble_eq_true rfl⟩) ⟨PR.blind, fun U hU hW => ⟨rfl, by rw [hU]; exact hC.warm hW, by rw [hU]; exact va_P_nil⟩⟩ rfl rfl hl.1 rfl (lv_room (Nat.le_of_ble_eq_true rfl)) dX4_triple_43 ⟨Nat.le_of_ble_eq_true rfl, Nat.le_of_ble_eq_true rfl⟩) ?_
          obtain rfl := Sum.inl.inj (Option.some.inj h)
          exact W.iret hx hb hr (fun t ht hW => ⟨rfl, ht⟩) (fun q hq => absurd hq List.not_mem_nil) dX4_triple_46
      · replace h := sumR h
        exact absurd (Option.some.inj h) (fun z => by cases z)
    · have h := iteF hc h
      exact absurd (Option.some.inj h) (fun z => by cases z)

abbrev rx_X4_triple : Room := { frames := 7, cells := 1, slots := 6, locals := 140 }
set_option maxHeartbeats 4000000 in
set_option maxRecDepth 100000 in
theorem x_X4_triple (l : Launch) (hl9 : l.stackTraces = false) (z0 : Nat) (D : va_G) (t : Nat → ClassId) (x0 : Nat) (s0 : Nat) (s1 : Nat) (e0 : Nat) (E : Nat → Nat) (A : Nat → Nat) (B : Nat → Nat) (G : Nat → Nat) (T : va_W) (μ : XS) (a1 : Int32) (a2 : Int32) (xE : String) (sz : Nat) (h : f_X4_triple μ a1 a2 = some (.inr xE)) : vx_Met l yX4_triple (ws_ yX4_triple cX4_triple 4 (some .int)) rx_X4_triple (PM z0 D t [.ref (x0), .int a1, .int a2] (XW x0 s0 s1 e0 E A B G T t μ) (XL x0 s0 s1 e0 E A B G T μ) sz) (fun _ _ _ _ => False) (XM xE D (XW x0 s0 s1 e0 E A B G T t μ) (XL x0 s0 s1 e0 E A B G T μ) sz) 1 6 (OA (XL x0 s0 s1 e0 E A B G T μ) sz) := by
  refine vx_ofW (cc := cX4_triple) (maxL := 4) (ret := (some .int)) (by decide) rfl ?_
  intro p e s m args below meth c s₁ Bo hml hT hv
  obtain ⟨rfl, hC, hsz, hP, hD, hZ⟩ := hv
  have hx := Bo.exec
  have hb := Bo.bytes
  have hr := Bo.returns
  have hts : ∀ w ∈ LA, w.before _ s = true := fun w hw => atoms_spec (ws := ws_ yX4_triple cX4_triple 4 (some .int)) Bo.pre w (List.mem_cons_of_mem _ hw)
  have hown : s.vm.findClass RX4 = some m.cls := findClass_of_methodNamed Bo.named
  have hlocks := Bo.notSynchronized
  have hK := hC.1
  subst hsz
  have hl := lv_entry ([.ref (x0), .int a1, .int a2]) (n := 4) (Nat.le_of_ble_eq_true rfl)
  rw [lg_entry_eq]
  generalize (lg_sl ([.ref (x0), .int a1, .int a2]) ++ List.replicate (4 - (lg_sl ([.ref (x0), .int a1, .int a2])).length) Slot.unset).toArray = ls at hl ⊢
  have hl : lv_has ls 4 [(0, .ref (x0)), (1, .int a1), (2, .int a2)] := hl
  suffices K9 : ∀ (H : Heap) (locs : List Loc), va_P D vwCl (XW x0 s0 s1 e0 E A B G T t μ) H → va_S (OA (XL x0 s0 s1 e0 E A B G T μ) s.heap.size) s.heap H locs → W p l e (headSpec (ws_ yX4_triple cX4_triple 4 (some .int)) rx_X4_triple).room s m ([.ref (x0), .int a1, .int a2] : List Value).toArray below meth c H locs 0 0 (vx_MQ below (fun _ _ _ _ => False) (XM xE D (XW x0 s0 s1 e0 E A B G T t μ) (XL x0 s0 s1 e0 E A B G T μ) s.heap.size) ([.ref (x0), .int a1, .int a2] : List Value).toArray s 1 6 (OA (XL x0 s0 s1 e0 E A B G T μ) s.heap.size)) (F0 m 0 ls []) from K9 s.heap [] hP va_S.rf
  intro H locs hP hS
  have hSz : s.heap.size ≤ H.size := hS.1
  unfold f_X4_triple at h
  refine lv_iload_n hx hb dX4_triple_0 rfl (lv_at hl 1 rfl) ?_
  refine lv_if_lt (tgt := 15) hx hb dX4_triple_1 (by decide) (fun hc => ?_) (fun hc => ?_)
  · have h := iteT hc h
    obtain rfl := Sum.inr.inj (Option.some.inj h)
    obtain ⟨sa, hsa⟩ := hC.2.2.2.2.2.1 ("BentGardens", 235, "there is no such triple") (by decide +kernel)
    refine vx_throwS hx hb hl9 hown (cls := "java/lang/IndexOutOfBoundsException") (names := ["java/lang/RuntimeException", "java/lang/Exception"]) (by decide) (by decide) (hts _ qw551) (hts _ qw20) hsa (at_words hts hC.2.1 at_IndexOutOfBoundsException) ato_IndexOutOfBoundsException (hC.2.2.2.2.2.2.2.1.narrow hZ) (hC.2.2.2.2.2.2.2.2.1.narrow hZ) hS (hl.1.trans hml.symm) dX4_triple_15 dX4_triple_18 dX4_triple_19 dX4_triple_21 dX4_triple_24 (fun x9 hx9 => (hT x9 hx9).elim) (Nat.le_of_ble_eq_true rfl) (Nat.le_of_ble_eq_true rfl) (Nat.le_of_ble_eq_true rfl) (Nat.le_of_ble_eq_true rfl) hlocks (fun t9 _ h8 h9 => XM.mk hP hD hS h8 h9) hS.2.2 (Nat.le_of_ble_eq_true rfl) (Nat.le_of_ble_eq_true rfl)
  · have h := iteF hc h
    refine lv_iload_n hx hb dX4_triple_4 rfl (lv_at hl 1 rfl) ?_
    refine lv_aload_n hx hb dX4_triple_5 rfl (lv_at hl 0 rfl) ?_
    refine va_get hx hb hts inX4 hown hK hP 0 rfl rfl 4 (by decide) (hts _ qw161) (fun _ h9 => h9) rfl dX4_triple_6 ?_
    refine va_get hx hb hts inX1 hown hK hP 13 rfl rfl 5 (by decide) (hts _ qw132) (fun _ h9 => h9) rfl dX4_triple_9 ?_
    refine lv_icmp_lt (tgt := 25) hx hb dX4_triple_12 (by decide) (fun hc => ?_) (fun hc => ?_)
    · have h := iteT hc h
      refine lv_iload_n hx hb dX4_triple_25 rfl (lv_at hl 2 rfl) ?_
      obtain ⟨r1o, er1, h⟩ := obind h
      rcases r1o with r1 | Er1
      · replace h := sumL h
        refine call_R (va_runS (As := [.int a2]) (rest := []) ⟨hx, hb, hml, hown, hts⟩ (c_X4_requireProperty l z0 D t a2 _ er1) (kS hts qw567 qw568 qw1 qw569 ok_X4_requireProperty ⟨Nat.le_of_ble_eq_true rfl, Nat.le_of_ble_eq_true rfl⟩) ⟨PR.blind, fun U hU hW => ⟨rfl, by rw [hU]; exact (hC.at hS hZ).warm hW, by rw [hU]; exact va_P_nil⟩⟩ rfl rfl hl.1 rfl (lv_room (Nat.le_of_ble_eq_true rfl)) dX4_triple_26 ⟨Nat.le_of_ble_eq_true rfl, Nat.le_of_ble_eq_true rfl⟩) ?_
        refine lv_aload_n hx hb dX4_triple_29 rfl (lv_at hl 0 rfl) ?_
        refine va_get hx hb hts inX4 hown hK hP 0 rfl rfl 4 (by decide) (hts _ qw161) (fun _ h9 => h9) rfl dX4_triple_30 ?_
        refine lv_iload_n hx hb dX4_triple_33 rfl (lv_at hl 1 rfl) ?_
        obtain ⟨r2, er2, h⟩ := obind h
        refine call_R (va_runV (As := [.int a1]) (rest := []) ⟨hx, hb, hml, hown, hts⟩ (c_X1_tripleName l z0 D t G ((x_wide μ), (x_high μ), (x_pond μ), (x_walls μ), (x_paved μ), (x_tc μ), (x_flips μ), (x_refused μ), (x_names μ)) a1 _ er2) (kV hts qw605 qw452 qw453 qw8 qw454 ok_X1_tripleName ⟨Nat.le_of_ble_eq_true rfl, Nat.le_of_ble_eq_true rfl⟩) ⟨PR.blind, va_recv hK (sub_X_G (μ := μ) hP) (ci := 2) (q0 := 0) rfl rfl, fun U hU hW => ⟨rfl, by rw [hU]; exact (hC.at hS hZ).warm hW, by rw [hU]; exact (sub_X_G (μ := μ) hP)⟩⟩ rfl rfl hl.1 rfl (lv_room (Nat.le_of_ble_eq_true rfl)) dX4_triple_34 ⟨Nat.le_of_ble_eq_true rfl, Nat.le_of_ble_eq_true rfl⟩) ?_
        refine lv_istore_n (lv' := [(3, .int r2), (0, .ref (x0)), (1, .int a1), (2, .int a2)]) hx hb dX4_triple_37 rfl hl (by decide) rfl (fun ls hl => ?_)
        refine lv_iload_n hx hb dX4_triple_38 rfl (lv_at hl 3 rfl) ?_
        refine lv_if_ne (tgt := 47) hx hb dX4_triple_39 (by decide) (fun hc => ?_) (fun hc => ?_)
        · have h := iteF hc h
          refine lv_iload_n hx hb dX4_triple_47 rfl (lv_at hl 3 rfl) ?_
          refine lv_iconst (v := (1)) hx hb dX4_triple_48 (by decide) ?_
          refine lv_icmp_ne (tgt := 59) hx hb dX4_triple_49 (by decide) (fun hc => ?_) (fun hc => ?_)
          · have h := iteF hc h
            refine lv_iload_n hx hb dX4_triple_59 rfl (lv_at hl 0 rfl) ?_
            obtain ⟨r3, er3, h⟩ := obind h
            refine call_R (va_runS (As := [.int r2]) (rest := []) ⟨hx, hb, hml, hown, hts⟩ (c_X4_turnOf l z0 D t r2 _ er3) (kS hts qw608 qw462 qw1 qw463 ok_X4_turnOf ⟨Nat.le_of_ble_eq_true rfl, Nat.le_of_ble_eq_true rfl⟩) ⟨PR.blind, fun U hU hW => ⟨rfl, by rw [hU]; exact (hC.at hS hZ).warm hW, by rw [hU]; exact va_P_nil⟩⟩ rfl rfl hl.1 rfl (lv_room (Nat.le_of_ble_eq_true rfl)) dX4_triple_60 ⟨Nat.le_of_ble_eq_true rfl, Nat.le_of_ble_eq_true rfl⟩) ?_
            exact absurd (Option.some.inj h) (fun z => by cases z)
          · have h := iteT hc h
            refine lv_iload_n hx hb dX4_triple_52 rfl (lv_at hl 0 rfl) ?_
            obtain ⟨r4, er4, h⟩ := obind h
            refine call_R (va_runS (As := [.int r2]) (rest := []) ⟨hx, hb, hml, hown, hts⟩ (c_X4_rowOf l z0 D t r2 _ er4) (kS hts qw607 qw459 qw1 qw460 ok_X4_rowOf ⟨Nat.le_of_ble_eq_true rfl, Nat.le_of_ble_eq_true rfl⟩) ⟨PR.blind, fun U hU hW => ⟨rfl, by rw [hU]; exact (hC.at hS hZ).warm hW, by rw [hU]; exact va_P_nil⟩⟩ rfl rfl hl.1 rfl (lv_room (Nat.le_of_ble_eq_true rfl)) dX4_triple_53 ⟨Nat.le_of_ble_eq_true rfl, Nat.le_of_ble_eq_true rfl⟩) ?_
            refine lv_goto (tgt := 63) hx hb dX4_triple_56 (by decide) ?_
            exact absurd (Option.some.inj h) (fun z => by cases z)
        · have h := iteT hc h
          refine lv_iload_n hx hb dX4_triple_42 rfl (lv_at hl 0 rfl) ?_
          obtain ⟨r5, er5, h⟩ := obind h
          refine call_R (va_runS (As := [.int r2]) (rest := []) ⟨hx, hb, hml, hown, hts⟩ (c_X4_columnOf l z0 D t r2 _ er5) (kS hts qw606 qw456 qw1 qw457 ok_X4_columnOf ⟨Nat.le_of_ble_eq_true rfl, Nat.le_of_ble_eq_true rfl⟩) ⟨PR.blind, fun U hU hW => ⟨rfl, by rw [hU]; exact (hC.at hS hZ).warm hW, by rw [hU]; exact va_P_nil⟩⟩ rfl rfl hl.1 rfl (lv_room (Nat.le_of_ble_eq_true rfl)) dX4_triple_43 ⟨Nat.le_of_ble_eq_true rfl, Nat.le_of_ble_eq_true rfl⟩) ?_
          exact absurd (Option.some.inj h) (fun z => by cases z)
      · replace h := sumR h
        obtain rfl := Sum.inr.inj (Option.some.inj h)
        refine call_X (vx_runS (As := [.int a2]) (rest := []) ⟨hx, hb, hml, hown, hts⟩ (x_X4_requireProperty l hl9 z0 D t a2 _ H.size er1) (kS hts qw567 qw568 qw1 qw569 ok_X4_requireProperty ⟨Nat.le_of_ble_eq_true rfl, Nat.le_of_ble_eq_true rfl⟩) ⟨PM.blind, fun U hU hW => ⟨rfl, by rw [hU]; exact (hC.at hS hZ).warm hW, by rw [hU], by rw [hU]; exact va_P_nil, ⟨(va_D_nil (A := OA [] s.heap.size)).1, fun _ _ h9 => Or.inl (in_map (L := []) rfl h9)⟩, fun q hq => hZ q (OA.nil hSz q hq)⟩⟩ rfl rfl hl.1 rfl (lv_room (Nat.le_of_ble_eq_true rfl)) dX4_triple_26 ⟨Nat.le_of_ble_eq_true rfl, Nat.le_of_ble_eq_true rfl⟩) hS (OA.nil hSz) (fun H locs q9 ce9 hP1 hD1 hS hsz1 hk1 hce hcv hcc => ?_)
        have hP : va_P D vwCl (XW x0 s0 s1 e0 E A B G T t μ) H := va_P.keptN hP hk1
        exact vx_out (fun x9 hx9 => (hT x9 hx9).elim) hlocks hce hcv hcc (fun t9 h8 _ => XM.mk2 hP hD hS h8) hS.2.2 (Nat.le_of_ble_eq_true rfl) (Nat.le_of_ble_eq_true rfl)
    · have h := iteF hc h
      obtain rfl := Sum.inr.inj (Option.some.inj h)
      obtain ⟨sa, hsa⟩ := hC.2.2.2.2.2.1 ("BentGardens", 235, "there is no such triple") (by decide +kernel)
      refine vx_throwS hx hb hl9 hown (cls := "java/lang/IndexOutOfBoundsException") (names := ["java/lang/RuntimeException", "java/lang/Exception"]) (by decide) (by decide) (hts _ qw551) (hts _ qw20) hsa (at_words hts hC.2.1 at_IndexOutOfBoundsException) ato_IndexOutOfBoundsException (hC.2.2.2.2.2.2.2.1.narrow hZ) (hC.2.2.2.2.2.2.2.2.1.narrow hZ) hS (hl.1.trans hml.symm) dX4_triple_15 dX4_triple_18 dX4_triple_19 dX4_triple_21 dX4_triple_24 (fun x9 hx9 => (hT x9 hx9).elim) (Nat.le_of_ble_eq_true rfl) (Nat.le_of_ble_eq_true rfl) (Nat.le_of_ble_eq_true rfl) (Nat.le_of_ble_eq_true rfl) hlocks (fun t9 _ h8 h9 => XM.mk hP hD hS h8 h9) hS.2.2 (Nat.le_of_ble_eq_true rfl) (Nat.le_of_ble_eq_true rfl)

abbrev rm_X4_mixedTriples : Room := { frames := 8, cells := 0, slots := 0, locals := 163 }
theorem ok_X4_mixedTriples : okY yX4_mixedTriples 1 := ⟨by decide +kernel, by decide +kernel, by decide +kernel⟩
set_option maxHeartbeats 4000000 in
set_option maxRecDepth 100000 in
theorem c_X4_mixedTriples (l : Launch) (z0 : Nat) (D : va_G) (t : Nat → ClassId) (x0 : Nat) (s0 : Nat) (s1 : Nat) (e0 : Nat) (E : Nat → Nat) (A : Nat → Nat) (B : Nat → Nat) (G : Nat → Nat) (T : va_W) (μ : XS) (a1 : Int64) (res : Int64) (h : f_X4_mixedTriples μ a1 = some (.inl res)) : Met l yX4_mixedTriples (ws_ yX4_mixedTriples cX4_mixedTriples 7 (some .long)) rm_X4_mixedTriples (PR z0 D t [.ref (x0), .long a1] (XW x0 s0 s1 e0 E A B G T t μ)) (QR (some (.long res))) 0 0 FN := by
  refine Met.ofW (cc := cX4_mixedTriples) (maxL := 7) (ret := (some .long)) (by decide) rfl ?_
  intro p e s m args below meth c s₁ Bo hml hv
  obtain ⟨rfl, hC, hP⟩ := hv
  have hx := Bo.exec
  have hb := Bo.bytes
  have hr := Bo.returns
  have hts : ∀ w ∈ LA, w.before _ s = true := fun w hw => atoms_spec (ws := ws_ yX4_mixedTriples cX4_mixedTriples 7 (some .long)) Bo.pre w (List.mem_cons_of_mem _ hw)
  have hown : s.vm.findClass RX4 = some m.cls := findClass_of_methodNamed Bo.named
  have hlocks := Bo.notSynchronized
  have hK := hC.1
  have hl := lv_entry ([.ref (x0), .long a1]) (n := 7) (Nat.le_of_ble_eq_true rfl)
  rw [lg_entry_eq]
  generalize (lg_sl ([.ref (x0), .long a1]) ++ List.replicate (7 - (lg_sl ([.ref (x0), .long a1])).length) Slot.unset).toArray = ls at hl ⊢
  have hl : lv_has ls 7 [(0, .ref (x0)), (1, .long a1)] := hl
  unfold f_X4_mixedTriples at h
  refine lv_lload_n hx hb dX4_mixedTriples_0 rfl (lv_at hl 1 rfl) ?_
  refine lv_lstore_n (lv' := [(3, .long a1), (0, .ref (x0)), (1, .long a1)]) hx hb dX4_mixedTriples_1 rfl hl (by decide) rfl (fun ls hl => ?_)
  refine lv_iconst (v := (0)) hx hb dX4_mixedTriples_2 (by decide) ?_
  refine lv_istore (lv' := [(5, .int (0 : Int32)), (3, .long a1), (0, .ref (x0)), (1, .long a1)]) hx hb dX4_mixedTriples_3 hl (by decide) rfl (fun ls hl => ?_)
  obtain ⟨o23, eo23, h⟩ := obind h
  have hL5 : ∀ (n : Nat) (y3_5 : Int64) (y5_5 : Int32) (o23 : (Int64) ⊕ ((Int64) ⊕ (String))), f_X4_mixedTriples_L5 μ n y3_5 y5_5 = some o23 → (∀ o23l, o23 = .inl o23l → ∀ (ls : Array Slot), lv_has ls 7 [(3, .long o23l)] → W p l e (headSpec (ws_ yX4_mixedTriples cX4_mixedTriples 7 (some .long)) rm_X4_mixedTriples).room s m ([.ref (x0), .long a1] : List Value).toArray below meth c s.heap [] 0 0 (MQ below (QR (some (.long res))) ([.ref (x0), .long a1] : List Value).toArray s 0 0 FN) (F0 m 52 ls [])) → (∀ r9, o23 = .inr r9 → r9 = (.inl res)) → ∀ (ls : Array Slot), lv_has ls 7 [(0, .ref (x0)), (3, .long y3_5), (5, .int y5_5)] → W p l e (headSpec (ws_ yX4_mixedTriples cX4_mixedTriples 7 (some .long)) rm_X4_mixedTriples).room s m ([.ref (x0), .long a1] : List Value).toArray below meth c s.heap [] 0 0 (MQ below (QR (some (.long res))) ([.ref (x0), .long a1] : List Value).toArray s 0 0 FN) (F0 m 5 ls []) := by
    intro n
    induction n with
    | zero => intro y3_5 y5_5 o23 h; exact absurd h (fun z => by cases z)
    | succ n ih =>
      intro y3_5 y5_5 o23 h hK5 hR5 ls hl
      replace h : f_X4_mixedTriples_L5_b μ (f_X4_mixedTriples_L5 μ n) y3_5 y5_5 = some o23 := h
      unfold f_X4_mixedTriples_L5_b at h
      refine lv_iload hx hb dX4_mixedTriples_5 (lv_at hl 2 rfl) ?_
      refine lv_aload_n hx hb dX4_mixedTriples_7 rfl (lv_at hl 0 rfl) ?_
      refine va_get hx hb hts inX4 hown hK hP 0 rfl rfl 4 (by decide) (hts _ qw161) (fun _ h9 => h9) rfl dX4_mixedTriples_8 ?_
      refine va_get hx hb hts inX1 hown hK hP 13 rfl rfl 5 (by decide) (hts _ qw132) (fun _ h9 => h9) rfl dX4_mixedTriples_11 ?_
      refine lv_icmp_ge (tgt := 52) hx hb dX4_mixedTriples_14 (by decide) (fun hc => ?_) (fun hc => ?_)
      · have h := iteT hc h
        obtain rfl := Option.some.inj h
        exact hK5 _ rfl ls (lv_sub hl [1] rfl)
      · have h := iteF hc h
        refine lv_iconst (v := (0)) hx hb dX4_mixedTriples_17 (by decide) ?_
        refine lv_istore (lv' := [(6, .int (0 : Int32)), (0, .ref (x0)), (3, .long y3_5), (5, .int y5_5)]) hx hb dX4_mixedTriples_18 hl (by decide) rfl (fun ls hl => ?_)
        obtain ⟨o30, eo30, h⟩ := obind h
        have hL20 : ∀ (n : Nat) (y3_20 : Int64) (y6_20 : Int32) (o30 : (Int64) ⊕ ((Int64) ⊕ (String))), f_X4_mixedTriples_L20 μ y5_5 n y3_20 y6_20 = some o30 → (∀ o30l, o30 = .inl o30l → ∀ (ls : Array Slot), lv_has ls 7 [(0, .ref (x0)), (3, .long o30l), (5, .int y5_5)] → W p l e (headSpec (ws_ yX4_mixedTriples cX4_mixedTriples 7 (some .long)) rm_X4_mixedTriples).room s m ([.ref (x0), .long a1] : List Value).toArray below meth c s.heap [] 0 0 (MQ below (QR (some (.long res))) ([.ref (x0), .long a1] : List Value).toArray s 0 0 FN) (F0 m 46 ls [])) → (∀ r9, o30 = .inr r9 → r9 = (.inl res)) → ∀ (ls : Array Slot), lv_has ls 7 [(0, .ref (x0)), (3, .long y3_20), (5, .int y5_5), (6, .int y6_20)] → W p l e (headSpec (ws_ yX4_mixedTriples cX4_mixedTriples 7 (some .long)) rm_X4_mixedTriples).room s m ([.ref (x0), .long a1] : List Value).toArray below meth c s.heap [] 0 0 (MQ below (QR (some (.long res))) ([.ref (x0), .long a1] : List Value).toArray s 0 0 FN) (F0 m 20 ls []) := by
          intro n
          induction n with
          | zero => intro y3_20 y6_20 o30 h; exact absurd h (fun z => by cases z)
          | succ n ih =>
            intro y3_20 y6_20 o30 h hK20 hR20 ls hl
            replace h : f_X4_mixedTriples_L20_b μ y5_5 (f_X4_mixedTriples_L20 μ y5_5 n) y3_20 y6_20 = some o30 := h
            unfold f_X4_mixedTriples_L20_b at h
            refine lv_iload hx hb dX4_mixedTriples_20 (lv_at hl 3 rfl) ?_
            refine lv_iconst (v := (3)) hx hb dX4_mixedTriples_22 (by decide) ?_
            refine lv_icmp_ge (tgt := 46) hx hb dX4_mixedTriples_23 (by decide) (fun hc => ?_) (fun hc => ?_)
            · have h := iteT hc h
              obtain rfl := Option.some.inj h
              exact hK20 _ rfl ls (lv_sub hl [0, 1, 2] rfl)
            · have h := iteF hc h
              refine lv_lload_n hx hb dX4_mixedTriples_26 rfl (lv_at hl 1 rfl) ?_
              refine lv_aload_n hx hb dX4_mixedTriples_27 rfl (lv_at hl 0 rfl) ?_
              refine lv_iload hx hb dX4_mixedTriples_28 (lv_at hl 2 rfl) ?_
              refine lv_iload hx hb dX4_mixedTriples_30 (lv_at hl 3 rfl) ?_
              obtain ⟨r31o, er31, h⟩ := obind h
              rcases r31o with r31 | Er31
              · replace h := sumL h
                refine call_R (va_runV (As := [.int y5_5, .int y6_20]) (rest := [.long y3_20]) ⟨hx, hb, hml, hown, hts⟩ (c_X4_triple l z0 D t x0 s0 s1 e0 E A B G T μ y5_5 y6_20 _ er31) (kV hts qw600 qw601 qw602 qw1 qw603 ok_X4_triple ⟨Nat.le_of_ble_eq_true rfl, Nat.le_of_ble_eq_true rfl⟩) ⟨PR.blind, va_recv hK hP (ci := 5) (q0 := 0) rfl rfl, fun U hU hW => ⟨rfl, by rw [hU]; exact hC.warm hW, by rw [hU]; exact hP⟩⟩ rfl rfl hl.1 rfl (lv_room (Nat.le_of_ble_eq_true rfl)) dX4_mixedTriples_32 ⟨Nat.le_of_ble_eq_true rfl, Nat.le_of_ble_eq_true rfl⟩) ?_
                refine lv_i2l hx hb dX4_mixedTriples_35 rfl ?_
                obtain ⟨r32, er32, h⟩ := obind h
                refine call_R (va_runS (As := [.long y3_20, .long r31.toInt64]) (rest := []) ⟨hx, hb, hml, hown, hts⟩ (c_X4_mixed l z0 D t y3_20 r31.toInt64 _ er32) (kS hts qw539 qw540 qw1 qw541 ok_X4_mixed ⟨Nat.le_of_ble_eq_true rfl, Nat.le_of_ble_eq_true rfl⟩) ⟨PR.blind, fun U hU hW => ⟨rfl, by rw [hU]; exact hC.warm hW, by rw [hU]; exact va_P_nil⟩⟩ rfl rfl hl.1 rfl (lv_room (Nat.le_of_ble_eq_true rfl)) dX4_mixedTriples_36 ⟨Nat.le_of_ble_eq_true rfl, Nat.le_of_ble_eq_true rfl⟩) ?_
                refine lv_lstore_n (lv' := [(3, .long r32), (0, .ref (x0)), (5, .int y5_5), (6, .int y6_20)]) hx hb dX4_mixedTriples_39 rfl hl (by decide) rfl (fun ls hl => ?_)
                obtain ⟨x33, ex33, h⟩ := jlet_some h
                refine lv_iinc (v := x33) (lv' := [(6, .int x33), (3, .long r32), (0, .ref (x0)), (5, .int y5_5)]) hx hb dX4_mixedTriples_40 hl (k := 3) rfl (by rw [ex33]; rfl) (by decide) rfl (fun ls hl => ?_)
                refine lv_goto (tgt := 20) hx hb dX4_mixedTriples_43 (by decide) ?_
                exact ih _ _ _ h hK20 hR20 ls (lv_sub hl [2, 1, 3, 0] rfl)
              · replace h := sumR h
                have e9 := hR20 _ (Option.some.inj h).symm
                exact absurd e9 (fun z => by cases z)
        refine hL20 _ _ _ _ eo30 (fun o30l eq9 ls hl => ?_) (fun r9 eq9 => ?_) ls (lv_sub hl [1, 2, 3, 0] rfl)
        · subst eq9
          replace h := sumL h
          obtain ⟨x34, ex34, h⟩ := jlet_some h
          refine lv_iinc (v := x34) (lv' := [(5, .int x34), (0, .ref (x0)), (3, .long o30l)]) hx hb dX4_mixedTriples_46 hl (k := 2) rfl (by rw [ex34]; rfl) (by decide) rfl (fun ls hl => ?_)
          refine lv_goto (tgt := 5) hx hb dX4_mixedTriples_49 (by decide) ?_
          exact ih _ _ _ h hK5 hR5 ls (lv_sub hl [1, 2, 0] rfl)
        · subst eq9
          replace h := sumR h
          exact hR5 _ (Option.some.inj h).symm
  refine hL5 _ _ _ _ eo23 (fun o23l eq9 ls hl => ?_) (fun r9 eq9 => ?_) ls (lv_sub hl [2, 1, 0] rfl)
  · subst eq9
    replace h := sumL h
    refine lv_lload_n hx hb dX4_mixedTriples_52 rfl (lv_at hl 0 rfl) ?_
    obtain rfl := Sum.inl.inj (Option.some.inj h)
    exact W.lret hx hb hr (fun t ht hW => ⟨rfl, ht⟩) (fun q hq => absurd hq List.not_mem_nil) dX4_mixedTriples_53
  · subst eq9
    replace h := sumR h
    exact Option.some.inj h

abbrev rx_X4_mixedTriples : Room := { frames := 8, cells := 1, slots := 6, locals := 163 }
set_option maxHeartbeats 4000000 in
set_option maxRecDepth 100000 in
theorem x_X4_mixedTriples (l : Launch) (hl9 : l.stackTraces = false) (z0 : Nat) (D : va_G) (t : Nat → ClassId) (x0 : Nat) (s0 : Nat) (s1 : Nat) (e0 : Nat) (E : Nat → Nat) (A : Nat → Nat) (B : Nat → Nat) (G : Nat → Nat) (T : va_W) (μ : XS) (a1 : Int64) (xE : String) (sz : Nat) (h : f_X4_mixedTriples μ a1 = some (.inr xE)) : vx_Met l yX4_mixedTriples (ws_ yX4_mixedTriples cX4_mixedTriples 7 (some .long)) rx_X4_mixedTriples (PM z0 D t [.ref (x0), .long a1] (XW x0 s0 s1 e0 E A B G T t μ) (XL x0 s0 s1 e0 E A B G T μ) sz) (fun _ _ _ _ => False) (XM xE D (XW x0 s0 s1 e0 E A B G T t μ) (XL x0 s0 s1 e0 E A B G T μ) sz) 1 6 (OA (XL x0 s0 s1 e0 E A B G T μ) sz) := by
  refine vx_ofW (cc := cX4_mixedTriples) (maxL := 7) (ret := (some .long)) (by decide) rfl ?_
  intro p e s m args below meth c s₁ Bo hml hT hv
  obtain ⟨rfl, hC, hsz, hP, hD, hZ⟩ := hv
  have hx := Bo.exec
  have hb := Bo.bytes
  have hr := Bo.returns
  have hts : ∀ w ∈ LA, w.before _ s = true := fun w hw => atoms_spec (ws := ws_ yX4_mixedTriples cX4_mixedTriples 7 (some .long)) Bo.pre w (List.mem_cons_of_mem _ hw)
  have hown : s.vm.findClass RX4 = some m.cls := findClass_of_methodNamed Bo.named
  have hlocks := Bo.notSynchronized
  have hK := hC.1
  subst hsz
  have hl := lv_entry ([.ref (x0), .long a1]) (n := 7) (Nat.le_of_ble_eq_true rfl)
  rw [lg_entry_eq]
  generalize (lg_sl ([.ref (x0), .long a1]) ++ List.replicate (7 - (lg_sl ([.ref (x0), .long a1])).length) Slot.unset).toArray = ls at hl ⊢
  have hl : lv_has ls 7 [(0, .ref (x0)), (1, .long a1)] := hl
  suffices K9 : ∀ (H : Heap) (locs : List Loc), va_P D vwCl (XW x0 s0 s1 e0 E A B G T t μ) H → va_S (OA (XL x0 s0 s1 e0 E A B G T μ) s.heap.size) s.heap H locs → W p l e (headSpec (ws_ yX4_mixedTriples cX4_mixedTriples 7 (some .long)) rx_X4_mixedTriples).room s m ([.ref (x0), .long a1] : List Value).toArray below meth c H locs 0 0 (vx_MQ below (fun _ _ _ _ => False) (XM xE D (XW x0 s0 s1 e0 E A B G T t μ) (XL x0 s0 s1 e0 E A B G T μ) s.heap.size) ([.ref (x0), .long a1] : List Value).toArray s 1 6 (OA (XL x0 s0 s1 e0 E A B G T μ) s.heap.size)) (F0 m 0 ls []) from K9 s.heap [] hP va_S.rf
  intro H locs hP hS
  have hSz : s.heap.size ≤ H.size := hS.1
  unfold f_X4_mixedTriples at h
  refine lv_lload_n hx hb dX4_mixedTriples_0 rfl (lv_at hl 1 rfl) ?_
  refine lv_lstore_n (lv' := [(3, .long a1), (0, .ref (x0)), (1, .long a1)]) hx hb dX4_mixedTriples_1 rfl hl (by decide) rfl (fun ls hl => ?_)
  refine lv_iconst (v := (0)) hx hb dX4_mixedTriples_2 (by decide) ?_
  refine lv_istore (lv' := [(5, .int (0 : Int32)), (3, .long a1), (0, .ref (x0)), (1, .long a1)]) hx hb dX4_mixedTriples_3 hl (by decide) rfl (fun ls hl => ?_)
  obtain ⟨o23, eo23, h⟩ := obind h
  have hL5 : ∀ (n : Nat) (y3_5 : Int64) (y5_5 : Int32) (o23 : (Int64) ⊕ ((Int64) ⊕ (String))), f_X4_mixedTriples_L5 μ n y3_5 y5_5 = some o23 → (∀ o23l, o23 = .inl o23l → ∀ (ls : Array Slot) (H : Heap) (locs : List Loc), lv_has ls 7 [(3, .long o23l)] → va_P D vwCl (XW x0 s0 s1 e0 E A B G T t μ) H → va_D (OA (XL x0 s0 s1 e0 E A B G T μ) s.heap.size) (XW x0 s0 s1 e0 E A B G T t μ) → va_S (OA (XL x0 s0 s1 e0 E A B G T μ) s.heap.size) s.heap H locs → W p l e (headSpec (ws_ yX4_mixedTriples cX4_mixedTriples 7 (some .long)) rx_X4_mixedTriples).room s m ([.ref (x0), .long a1] : List Value).toArray below meth c H locs 0 0 (vx_MQ below (fun _ _ _ _ => False) (XM xE D (XW x0 s0 s1 e0 E A B G T t μ) (XL x0 s0 s1 e0 E A B G T μ) s.heap.size) ([.ref (x0), .long a1] : List Value).toArray s 1 6 (OA (XL x0 s0 s1 e0 E A B G T μ) s.heap.size)) (F0 m 52 ls [])) → (∀ r9, o23 = .inr r9 → r9 = (.inr xE)) → ∀ (ls : Array Slot) (H : Heap) (locs : List Loc), lv_has ls 7 [(0, .ref (x0)), (3, .long y3_5), (5, .int y5_5)] → va_P D vwCl (XW x0 s0 s1 e0 E A B G T t μ) H → va_D (OA (XL x0 s0 s1 e0 E A B G T μ) s.heap.size) (XW x0 s0 s1 e0 E A B G T t μ) → va_S (OA (XL x0 s0 s1 e0 E A B G T μ) s.heap.size) s.heap H locs → W p l e (headSpec (ws_ yX4_mixedTriples cX4_mixedTriples 7 (some .long)) rx_X4_mixedTriples).room s m ([.ref (x0), .long a1] : List Value).toArray below meth c H locs 0 0 (vx_MQ below (fun _ _ _ _ => False) (XM xE D (XW x0 s0 s1 e0 E A B G T t μ) (XL x0 s0 s1 e0 E A B G T μ) s.heap.size) ([.ref (x0), .long a1] : List Value).toArray s 1 6 (OA (XL x0 s0 s1 e0 E A B G T μ) s.heap.size)) (F0 m 5 ls []) := by
    intro n
    induction n with
    | zero => intro y3_5 y5_5 o23 h; exact absurd h (fun z => by cases z)
    | succ n ih =>
      intro y3_5 y5_5 o23 h hK5 hR5 ls H locs hl hP hD hS
      replace h : f_X4_mixedTriples_L5_b μ (f_X4_mixedTriples_L5 μ n) y3_5 y5_5 = some o23 := h
      unfold f_X4_mixedTriples_L5_b at h
      have hSz : s.heap.size ≤ H.size := hS.1
      refine lv_iload hx hb dX4_mixedTriples_5 (lv_at hl 2 rfl) ?_
      refine lv_aload_n hx hb dX4_mixedTriples_7 rfl (lv_at hl 0 rfl) ?_
      refine va_get hx hb hts inX4 hown hK hP 0 rfl rfl 4 (by decide) (hts _ qw161) (fun _ h9 => h9) rfl dX4_mixedTriples_8 ?_
      refine va_get hx hb hts inX1 hown hK hP 13 rfl rfl 5 (by decide) (hts _ qw132) (fun _ h9 => h9) rfl dX4_mixedTriples_11 ?_
      refine lv_icmp_ge (tgt := 52) hx hb dX4_mixedTriples_14 (by decide) (fun hc => ?_) (fun hc => ?_)
      · have h := iteT hc h
        obtain rfl := Option.some.inj h
        exact hK5 _ rfl ls H locs (lv_sub hl [1] rfl) hP hD hS
      · have h := iteF hc h
        refine lv_iconst (v := (0)) hx hb dX4_mixedTriples_17 (by decide) ?_
        refine lv_istore (lv' := [(6, .int (0 : Int32)), (0, .ref (x0)), (3, .long y3_5), (5, .int y5_5)]) hx hb dX4_mixedTriples_18 hl (by decide) rfl (fun ls hl => ?_)
        obtain ⟨o30, eo30, h⟩ := obind h
        have hL20 : ∀ (n : Nat) (y3_20 : Int64) (y6_20 : Int32) (o30 : (Int64) ⊕ ((Int64) ⊕ (String))), f_X4_mixedTriples_L20 μ y5_5 n y3_20 y6_20 = some o30 → (∀ o30l, o30 = .inl o30l → ∀ (ls : Array Slot) (H : Heap) (locs : List Loc), lv_has ls 7 [(0, .ref (x0)), (3, .long o30l), (5, .int y5_5)] → va_P D vwCl (XW x0 s0 s1 e0 E A B G T t μ) H → va_D (OA (XL x0 s0 s1 e0 E A B G T μ) s.heap.size) (XW x0 s0 s1 e0 E A B G T t μ) → va_S (OA (XL x0 s0 s1 e0 E A B G T μ) s.heap.size) s.heap H locs → W p l e (headSpec (ws_ yX4_mixedTriples cX4_mixedTriples 7 (some .long)) rx_X4_mixedTriples).room s m ([.ref (x0), .long a1] : List Value).toArray below meth c H locs 0 0 (vx_MQ below (fun _ _ _ _ => False) (XM xE D (XW x0 s0 s1 e0 E A B G T t μ) (XL x0 s0 s1 e0 E A B G T μ) s.heap.size) ([.ref (x0), .long a1] : List Value).toArray s 1 6 (OA (XL x0 s0 s1 e0 E A B G T μ) s.heap.size)) (F0 m 46 ls [])) → (∀ r9, o30 = .inr r9 → r9 = (.inr xE)) → ∀ (ls : Array Slot) (H : Heap) (locs : List Loc), lv_has ls 7 [(0, .ref (x0)), (3, .long y3_20), (5, .int y5_5), (6, .int y6_20)] → va_P D vwCl (XW x0 s0 s1 e0 E A B G T t μ) H → va_D (OA (XL x0 s0 s1 e0 E A B G T μ) s.heap.size) (XW x0 s0 s1 e0 E A B G T t μ) → va_S (OA (XL x0 s0 s1 e0 E A B G T μ) s.heap.size) s.heap H locs → W p l e (headSpec (ws_ yX4_mixedTriples cX4_mixedTriples 7 (some .long)) rx_X4_mixedTriples).room s m ([.ref (x0), .long a1] : List Value).toArray below meth c H locs 0 0 (vx_MQ below (fun _ _ _ _ => False) (XM xE D (XW x0 s0 s1 e0 E A B G T t μ) (XL x0 s0 s1 e0 E A B G T μ) s.heap.size) ([.ref (x0), .long a1] : List Value).toArray s 1 6 (OA (XL x0 s0 s1 e0 E A B G T μ) s.heap.size)) (F0 m 20 ls []) := by
          intro n
          induction n with
          | zero => intro y3_20 y6_20 o30 h; exact absurd h (fun z => by cases z)
          | succ n ih =>
            intro y3_20 y6_20 o30 h hK20 hR20 ls H locs hl hP hD hS
            replace h : f_X4_mixedTriples_L20_b μ y5_5 (f_X4_mixedTriples_L20 μ y5_5 n) y3_20 y6_20 = some o30 := h
            unfold f_X4_mixedTriples_L20_b at h
            have hSz : s.heap.size ≤ H.size := hS.1
            refine lv_iload hx hb dX4_mixedTriples_20 (lv_at hl 3 rfl) ?_
            refine lv_iconst (v := (3)) hx hb dX4_mixedTriples_22 (by decide) ?_
            refine lv_icmp_ge (tgt := 46) hx hb dX4_mixedTriples_23 (by decide) (fun hc => ?_) (fun hc => ?_)
            · have h := iteT hc h
              obtain rfl := Option.some.inj h
              exact hK20 _ rfl ls H locs (lv_sub hl [0, 1, 2] rfl) hP hD hS
            · have h := iteF hc h
              refine lv_lload_n hx hb dX4_mixedTriples_26 rfl (lv_at hl 1 rfl) ?_
              refine lv_aload_n hx hb dX4_mixedTriples_27 rfl (lv_at hl 0 rfl) ?_
              refine lv_iload hx hb dX4_mixedTriples_28 (lv_at hl 2 rfl) ?_
              refine lv_iload hx hb dX4_mixedTriples_30 (lv_at hl 3 rfl) ?_
              obtain ⟨r31o, er31, h⟩ := obind h
              rcases r31o with r31 | Er31
              · replace h := sumL h
                refine call_R (va_runV (As := [.int y5_5, .int y6_20]) (rest := [.long y3_20]) ⟨hx, hb, hml, hown, hts⟩ (c_X4_triple l z0 D t x0 s0 s1 e0 E A B G T μ y5_5 y6_20 _ er31) (kV hts qw600 qw601 qw602 qw1 qw603 ok_X4_triple ⟨Nat.le_of_ble_eq_true rfl, Nat.le_of_ble_eq_true rfl⟩) ⟨PR.blind, va_recv hK hP (ci := 5) (q0 := 0) rfl rfl, fun U hU hW => ⟨rfl, by rw [hU]; exact (hC.at hS hZ).warm hW, by rw [hU]; exact hP⟩⟩ rfl rfl hl.1 rfl (lv_room (Nat.le_of_ble_eq_true rfl)) dX4_mixedTriples_32 ⟨Nat.le_of_ble_eq_true rfl, Nat.le_of_ble_eq_true rfl⟩) ?_
                refine lv_i2l hx hb dX4_mixedTriples_35 rfl ?_
                obtain ⟨r32, er32, h⟩ := obind h
                refine call_R (va_runS (As := [.long y3_20, .long r31.toInt64]) (rest := []) ⟨hx, hb, hml, hown, hts⟩ (c_X4_mixed l z0 D t y3_20 r31.toInt64 _ er32) (kS hts qw539 qw540 qw1 qw541 ok_X4_mixed ⟨Nat.le_of_ble_eq_true rfl, Nat.le_of_ble_eq_true rfl⟩) ⟨PR.blind, fun U hU hW => ⟨rfl, by rw [hU]; exact (hC.at hS hZ).warm hW, by rw [hU]; exact va_P_nil⟩⟩ rfl rfl hl.1 rfl (lv_room (Nat.le_of_ble_eq_true rfl)) dX4_mixedTriples_36 ⟨Nat.le_of_ble_eq_true rfl, Nat.le_of_ble_eq_true rfl⟩) ?_
                refine lv_lstore_n (lv' := [(3, .long r32), (0, .ref (x0)), (5, .int y5_5), (6, .int y6_20)]) hx hb dX4_mixedTriples_39 rfl hl (by decide) rfl (fun ls hl => ?_)
                obtain ⟨x33, ex33, h⟩ := jlet_some h
                refine lv_iinc (v := x33) (lv' := [(6, .int x33), (3, .long r32), (0, .ref (x0)), (5, .int y5_5)]) hx hb dX4_mixedTriples_40 hl (k := 3) rfl (by rw [ex33]; rfl) (by decide) rfl (fun ls hl => ?_)
                refine lv_goto (tgt := 20) hx hb dX4_mixedTriples_43 (by decide) ?_
                exact ih _ _ _ h hK20 hR20 ls H locs (lv_sub hl [2, 1, 3, 0] rfl) hP hD hS
              · replace h := sumR h
                have e9 := hR20 _ (Option.some.inj h).symm
                obtain rfl := Sum.inr.inj e9
                refine call_X (vx_runV (As := [.int y5_5, .int y6_20]) (rest := [.long y3_20]) ⟨hx, hb, hml, hown, hts⟩ (x_X4_triple l hl9 z0 D t x0 s0 s1 e0 E A B G T μ y5_5 y6_20 _ H.size er31) (kV hts qw600 qw601 qw602 qw1 qw603 ok_X4_triple ⟨Nat.le_of_ble_eq_true rfl, Nat.le_of_ble_eq_true rfl⟩) ⟨PM.blind, va_recv hK hP (ci := 5) (q0 := 0) rfl rfl, fun U hU hW => ⟨rfl, by rw [hU]; exact (hC.at hS hZ).warm hW, by rw [hU], by rw [hU]; exact hP, ⟨hD.1, fun _ _ h9 => Or.inl (in_map (L := (XL x0 s0 s1 e0 E A B G T μ)) rfl h9)⟩, fun q hq => hZ q (OA.ofD hD rfl hSz q hq)⟩⟩ rfl rfl hl.1 rfl (lv_room (Nat.le_of_ble_eq_true rfl)) dX4_mixedTriples_32 ⟨Nat.le_of_ble_eq_true rfl, Nat.le_of_ble_eq_true rfl⟩) hS (OA.ofD hD rfl hSz) (fun H locs q9 ce9 hP1 hD1 hS hsz1 hk1 hce hcv hcc => ?_)
                have hP : va_P D vwCl (XW x0 s0 s1 e0 E A B G T t μ) H := hP1
                have hD : va_D (OA (XL x0 s0 s1 e0 E A B G T μ) s.heap.size) (XW x0 s0 s1 e0 E A B G T t μ) := hD1.weaken (fun _ q _ h9 => OA.ofD hD rfl hSz q.1 h9)
                exact vx_out (fun x9 hx9 => (hT x9 hx9).elim) hlocks hce hcv hcc (fun t9 h8 _ => XM.mk2 hP hD hS h8) hS.2.2 (Nat.le_of_ble_eq_true rfl) (Nat.le_of_ble_eq_true rfl)
        refine hL20 _ _ _ _ eo30 (fun o30l eq9 ls H locs hl hP hD hS => ?_) (fun r9 eq9 => ?_) ls H locs (lv_sub hl [1, 2, 3, 0] rfl) hP hD hS
        · subst eq9
          replace h := sumL h
          have hSz : s.heap.size ≤ H.size := hS.1
          obtain ⟨x34, ex34, h⟩ := jlet_some h
          refine lv_iinc (v := x34) (lv' := [(5, .int x34), (0, .ref (x0)), (3, .long o30l)]) hx hb dX4_mixedTriples_46 hl (k := 2) rfl (by rw [ex34]; rfl) (by decide) rfl (fun ls hl => ?_)
          refine lv_goto (tgt := 5) hx hb dX4_mixedTriples_49 (by decide) ?_
          exact ih _ _ _ h hK5 hR5 ls H locs (lv_sub hl [1, 2, 0] rfl) hP hD hS
        · subst eq9
          replace h := sumR h
          exact hR5 _ (Option.some.inj h).symm
  refine hL5 _ _ _ _ eo23 (fun o23l eq9 ls H locs hl hP hD hS => ?_) (fun r9 eq9 => ?_) ls H locs (lv_sub hl [2, 1, 0] rfl) hP hD hS
  · subst eq9
    replace h := sumL h
    have hSz : s.heap.size ≤ H.size := hS.1
    refine lv_lload_n hx hb dX4_mixedTriples_52 rfl (lv_at hl 0 rfl) ?_
    exact absurd (Option.some.inj h) (fun z => by cases z)
  · subst eq9
    replace h := sumR h
    exact Option.some.inj h

abbrev rm_X4_requireTurn : Room := { frames := 6, cells := 0, slots := 0, locals := 120 }
theorem ok_X4_requireTurn : okY yX4_requireTurn 1 := ⟨by decide +kernel, by decide +kernel, by decide +kernel⟩
set_option maxHeartbeats 4000000 in
set_option maxRecDepth 100000 in
theorem c_X4_requireTurn (l : Launch) (z0 : Nat) (D : va_G) (t : Nat → ClassId) (a1 : Int32) (res : Unit) (h : f_X4_requireTurn a1 = some (.inl res)) : Met l yX4_requireTurn (ws_ yX4_requireTurn cX4_requireTurn 1 none) rm_X4_requireTurn (PR z0 D t [.int a1] []) (QR none) 0 0 FN := by
  refine Met.ofW (cc := cX4_requireTurn) (maxL := 1) (ret := none) (by decide) rfl ?_
  intro p e s m args below meth c s₁ Bo hml hv
  obtain ⟨rfl, hC, hP⟩ := hv
  have hx := Bo.exec
  have hb := Bo.bytes
  have hr := Bo.returns
  have hts : ∀ w ∈ LA, w.before _ s = true := fun w hw => atoms_spec (ws := ws_ yX4_requireTurn cX4_requireTurn 1 none) Bo.pre w (List.mem_cons_of_mem _ hw)
  have hown : s.vm.findClass RX4 = some m.cls := findClass_of_methodNamed Bo.named
  have hlocks := Bo.notSynchronized
  have hK := hC.1
  have hl := lv_entry ([.int a1]) (n := 1) (Nat.le_of_ble_eq_true rfl)
  rw [lg_entry_eq]
  generalize (lg_sl ([.int a1]) ++ List.replicate (1 - (lg_sl ([.int a1])).length) Slot.unset).toArray = ls at hl ⊢
  have hl : lv_has ls 1 [(0, .int a1)] := hl
  unfold f_X4_requireTurn at h
  refine lv_iload_n hx hb dX4_requireTurn_0 rfl (lv_at hl 0 rfl) ?_
  refine lv_if_lt (tgt := 9) hx hb dX4_requireTurn_1 (by decide) (fun hc => ?_) (fun hc => ?_)
  · have h := iteT hc h
    exact absurd (Option.some.inj h) (fun z => by cases z)
  · have h := iteF hc h
    refine lv_iload_n hx hb dX4_requireTurn_4 rfl (lv_at hl 0 rfl) ?_
    refine lv_iconst (v := (4)) hx hb dX4_requireTurn_5 (by decide) ?_
    refine lv_icmp_lt (tgt := 20) hx hb dX4_requireTurn_6 (by decide) (fun hc => ?_) (fun hc => ?_)
    · have h := iteT hc h
      obtain rfl := Sum.inl.inj (Option.some.inj h)
      exact W.vret hx hb hr (fun t ht hW => ⟨rfl, ht⟩) (fun q hq => absurd hq List.not_mem_nil) dX4_requireTurn_20
    · have h := iteF hc h
      exact absurd (Option.some.inj h) (fun z => by cases z)

abbrev rx_X4_requireTurn : Room := { frames := 6, cells := 1, slots := 6, locals := 120 }
set_option maxHeartbeats 4000000 in
set_option maxRecDepth 100000 in
theorem x_X4_requireTurn (l : Launch) (hl9 : l.stackTraces = false) (z0 : Nat) (D : va_G) (t : Nat → ClassId) (a1 : Int32) (xE : String) (sz : Nat) (h : f_X4_requireTurn a1 = some (.inr xE)) : vx_Met l yX4_requireTurn (ws_ yX4_requireTurn cX4_requireTurn 1 none) rx_X4_requireTurn (PM z0 D t [.int a1] [] [] sz) (fun _ _ _ _ => False) (XM xE D [] [] sz) 1 6 (OA [] sz) := by
  refine vx_ofW (cc := cX4_requireTurn) (maxL := 1) (ret := none) (by decide) rfl ?_
  intro p e s m args below meth c s₁ Bo hml hT hv
  obtain ⟨rfl, hC, hsz, hP, hD, hZ⟩ := hv
  have hx := Bo.exec
  have hb := Bo.bytes
  have hr := Bo.returns
  have hts : ∀ w ∈ LA, w.before _ s = true := fun w hw => atoms_spec (ws := ws_ yX4_requireTurn cX4_requireTurn 1 none) Bo.pre w (List.mem_cons_of_mem _ hw)
  have hown : s.vm.findClass RX4 = some m.cls := findClass_of_methodNamed Bo.named
  have hlocks := Bo.notSynchronized
  have hK := hC.1
  subst hsz
  have hl := lv_entry ([.int a1]) (n := 1) (Nat.le_of_ble_eq_true rfl)
  rw [lg_entry_eq]
  generalize (lg_sl ([.int a1]) ++ List.replicate (1 - (lg_sl ([.int a1])).length) Slot.unset).toArray = ls at hl ⊢
  have hl : lv_has ls 1 [(0, .int a1)] := hl
  suffices K9 : ∀ (H : Heap) (locs : List Loc), va_P D vwCl [] H → va_S (OA [] s.heap.size) s.heap H locs → W p l e (headSpec (ws_ yX4_requireTurn cX4_requireTurn 1 none) rx_X4_requireTurn).room s m ([.int a1] : List Value).toArray below meth c H locs 0 0 (vx_MQ below (fun _ _ _ _ => False) (XM xE D [] [] s.heap.size) ([.int a1] : List Value).toArray s 1 6 (OA [] s.heap.size)) (F0 m 0 ls []) from K9 s.heap [] hP va_S.rf
  intro H locs hP hS
  have hSz : s.heap.size ≤ H.size := hS.1
  unfold f_X4_requireTurn at h
  refine lv_iload_n hx hb dX4_requireTurn_0 rfl (lv_at hl 0 rfl) ?_
  refine lv_if_lt (tgt := 9) hx hb dX4_requireTurn_1 (by decide) (fun hc => ?_) (fun hc => ?_)
  · have h := iteT hc h
    obtain rfl := Sum.inr.inj (Option.some.inj h)
    obtain ⟨sa, hsa⟩ := hC.2.2.2.2.2.1 ("BentGardens", 354, "turn is not 0 to 3") (by decide +kernel)
    refine vx_throwSW hx hb hl9 hown (cls := "java/lang/IllegalArgumentException") (names := ["java/lang/RuntimeException", "java/lang/Exception"]) (by decide) (by decide) (hts _ qw471) (hts _ qw13) hsa (at_words hts hC.2.1 at_IllegalArgumentException) ato_IllegalArgumentException (hC.2.2.2.2.2.2.2.1.narrow hZ) (hC.2.2.2.2.2.2.2.2.1.narrow hZ) hS (hl.1.trans hml.symm) dX4_requireTurn_9 dX4_requireTurn_12 dX4_requireTurn_13 dX4_requireTurn_16 dX4_requireTurn_19 (fun x9 hx9 => (hT x9 hx9).elim) (Nat.le_of_ble_eq_true rfl) (Nat.le_of_ble_eq_true rfl) (Nat.le_of_ble_eq_true rfl) (Nat.le_of_ble_eq_true rfl) hlocks (fun t9 _ h8 h9 => XM.mk hP hD hS h8 h9) hS.2.2 (Nat.le_of_ble_eq_true rfl) (Nat.le_of_ble_eq_true rfl)
  · have h := iteF hc h
    refine lv_iload_n hx hb dX4_requireTurn_4 rfl (lv_at hl 0 rfl) ?_
    refine lv_iconst (v := (4)) hx hb dX4_requireTurn_5 (by decide) ?_
    refine lv_icmp_lt (tgt := 20) hx hb dX4_requireTurn_6 (by decide) (fun hc => ?_) (fun hc => ?_)
    · have h := iteT hc h
      exact absurd (Option.some.inj h) (fun z => by cases z)
    · have h := iteF hc h
      obtain rfl := Sum.inr.inj (Option.some.inj h)
      obtain ⟨sa, hsa⟩ := hC.2.2.2.2.2.1 ("BentGardens", 354, "turn is not 0 to 3") (by decide +kernel)
      refine vx_throwSW hx hb hl9 hown (cls := "java/lang/IllegalArgumentException") (names := ["java/lang/RuntimeException", "java/lang/Exception"]) (by decide) (by decide) (hts _ qw471) (hts _ qw13) hsa (at_words hts hC.2.1 at_IllegalArgumentException) ato_IllegalArgumentException (hC.2.2.2.2.2.2.2.1.narrow hZ) (hC.2.2.2.2.2.2.2.2.1.narrow hZ) hS (hl.1.trans hml.symm) dX4_requireTurn_9 dX4_requireTurn_12 dX4_requireTurn_13 dX4_requireTurn_16 dX4_requireTurn_19 (fun x9 hx9 => (hT x9 hx9).elim) (Nat.le_of_ble_eq_true rfl) (Nat.le_of_ble_eq_true rfl) (Nat.le_of_ble_eq_true rfl) (Nat.le_of_ble_eq_true rfl) hlocks (fun t9 _ h8 h9 => XM.mk hP hD hS h8 h9) hS.2.2 (Nat.le_of_ble_eq_true rfl) (Nat.le_of_ble_eq_true rfl)

abbrev rm_X4_waysWith : Room := { frames := 7, cells := 0, slots := 0, locals := 140 }
theorem ok_X4_waysWith : okY yX4_waysWith 3 := ⟨by decide +kernel, by decide +kernel, by decide +kernel⟩
set_option maxHeartbeats 4000000 in
set_option maxRecDepth 100000 in
theorem c_X4_waysWith (l : Launch) (z0 : Nat) (D : va_G) (t : Nat → ClassId) (x0 : Nat) (s0 : Nat) (s1 : Nat) (e0 : Nat) (E : Nat → Nat) (A : Nat → Nat) (B : Nat → Nat) (G : Nat → Nat) (T : va_W) (μ : XS) (a1 : Int32) (a2 : Int32) (a3 : Int32) (res : Int32 × (Nat → Int32) × (Nat → Nat) × (Nat → Nat) × (Int32) × (Nat → Int32) × (Nat → Int32) × (Int32) × (Nat → Int32) × (Nat → Int32)) (sz : Nat) (h : f_X4_waysWith μ a1 a2 a3 = some (.inl res)) : Met l yX4_waysWith (ws_ yX4_waysWith cX4_waysWith 4 (some .int)) rm_X4_waysWith (PM z0 D t [.ref (x0), .int a1, .int a2, .int a3] (XW x0 s0 s1 e0 E A B G T t μ) (XL x0 s0 s1 e0 E A B G T μ) sz) (QM (some (.int res.1)) D (XW x0 s0 s1 e0 E A B G T t (x_length μ, x_codes μ, x_rest μ, res.2.1, res.2.2.1, res.2.2.2.1, res.2.2.2.2.1, res.2.2.2.2.2.1, res.2.2.2.2.2.2.1, res.2.2.2.2.2.2.2.1, res.2.2.2.2.2.2.2.2.1, res.2.2.2.2.2.2.2.2.2, x_wide μ, x_high μ, x_pond μ, x_walls μ, x_paved μ, x_tc μ, x_flips μ, x_refused μ, x_names μ, x_sl μ, x_lmod μ, x_lsize μ)) (XL x0 s0 s1 e0 E A B G T μ) sz) 0 0 (OA (XL x0 s0 s1 e0 E A B G T μ) sz) := by
  refine Met.ofW (cc := cX4_waysWith) (maxL := 4) (ret := (some .int)) (by decide) rfl ?_
  intro p e s m args below meth c s₁ Bo hml hv
  obtain ⟨rfl, hC, hsz, hP, hD, hZ⟩ := hv
  have hx := Bo.exec
  have hb := Bo.bytes
  have hr := Bo.returns
  have hts : ∀ w ∈ LA, w.before _ s = true := fun w hw => atoms_spec (ws := ws_ yX4_waysWith cX4_waysWith 4 (some .int)) Bo.pre w (List.mem_cons_of_mem _ hw)
  have hown : s.vm.findClass RX4 = some m.cls := findClass_of_methodNamed Bo.named
  have hlocks := Bo.notSynchronized
  have hK := hC.1
  subst hsz
  have hl := lv_entry ([.ref (x0), .int a1, .int a2, .int a3]) (n := 4) (Nat.le_of_ble_eq_true rfl)
  rw [lg_entry_eq]
  generalize (lg_sl ([.ref (x0), .int a1, .int a2, .int a3]) ++ List.replicate (4 - (lg_sl ([.ref (x0), .int a1, .int a2, .int a3])).length) Slot.unset).toArray = ls at hl ⊢
  have hl : lv_has ls 4 [(0, .ref (x0)), (1, .int a1), (2, .int a2), (3, .int a3)] := hl
  suffices K9 : ∀ (H : Heap) (locs : List Loc), va_P D vwCl (XW x0 s0 s1 e0 E A B G T t μ) H → va_S (OA (XL x0 s0 s1 e0 E A B G T μ) s.heap.size) s.heap H locs → W p l e (headSpec (ws_ yX4_waysWith cX4_waysWith 4 (some .int)) rm_X4_waysWith).room s m ([.ref (x0), .int a1, .int a2, .int a3] : List Value).toArray below meth c H locs 0 0 (MQ below (QM (some (.int res.1)) D (XW x0 s0 s1 e0 E A B G T t (x_length μ, x_codes μ, x_rest μ, res.2.1, res.2.2.1, res.2.2.2.1, res.2.2.2.2.1, res.2.2.2.2.2.1, res.2.2.2.2.2.2.1, res.2.2.2.2.2.2.2.1, res.2.2.2.2.2.2.2.2.1, res.2.2.2.2.2.2.2.2.2, x_wide μ, x_high μ, x_pond μ, x_walls μ, x_paved μ, x_tc μ, x_flips μ, x_refused μ, x_names μ, x_sl μ, x_lmod μ, x_lsize μ)) (XL x0 s0 s1 e0 E A B G T μ) s.heap.size) ([.ref (x0), .int a1, .int a2, .int a3] : List Value).toArray s 0 0 (OA (XL x0 s0 s1 e0 E A B G T μ) s.heap.size)) (F0 m 0 ls []) from K9 s.heap [] hP va_S.rf
  intro H locs hP hS
  have hSz : s.heap.size ≤ H.size := hS.1
  unfold f_X4_waysWith at h
  refine lv_iload_n hx hb dX4_waysWith_0 rfl (lv_at hl 3 rfl) ?_
  obtain ⟨r1o, er1, h⟩ := obind h
  rcases r1o with r1 | Er1
  · replace h := sumL h
    refine call_R (va_runS (As := [.int a3]) (rest := []) ⟨hx, hb, hml, hown, hts⟩ (c_X4_requireTurn l z0 D t a3 _ er1) (kS hts qw614 qw615 qw1 qw616 ok_X4_requireTurn ⟨Nat.le_of_ble_eq_true rfl, Nat.le_of_ble_eq_true rfl⟩) ⟨PR.blind, fun U hU hW => ⟨rfl, by rw [hU]; exact (hC.at hS hZ).warm hW, by rw [hU]; exact va_P_nil⟩⟩ rfl rfl hl.1 rfl (lv_room (Nat.le_of_ble_eq_true rfl)) dX4_waysWith_1 ⟨Nat.le_of_ble_eq_true rfl, Nat.le_of_ble_eq_true rfl⟩) ?_
    refine lv_aload_n hx hb dX4_waysWith_4 rfl (lv_at hl 0 rfl) ?_
    refine va_get hx hb hts inX4 hown hK hP 0 rfl rfl 4 (by decide) (hts _ qw161) (fun _ h9 => h9) rfl dX4_waysWith_5 ?_
    refine lv_iload_n hx hb dX4_waysWith_8 rfl (lv_at hl 1 rfl) ?_
    refine lv_iload_n hx hb dX4_waysWith_9 rfl (lv_at hl 2 rfl) ?_
    refine lv_iload_n hx hb dX4_waysWith_10 rfl (lv_at hl 3 rfl) ?_
    obtain ⟨r2, er2, h⟩ := obind h
    refine call_R (va_runV (As := [.int a1, .int a2, .int a3]) (rest := []) ⟨hx, hb, hml, hown, hts⟩ (c_X1_whyRefused l z0 D t G ((x_wide μ), (x_high μ), (x_pond μ), (x_walls μ), (x_paved μ), (x_tc μ), (x_flips μ), (x_refused μ), (x_names μ)) a1 a2 a3 _ er2) (kV hts qw618 qw359 qw360 qw8 qw361 ok_X1_whyRefused ⟨Nat.le_of_ble_eq_true rfl, Nat.le_of_ble_eq_true rfl⟩) ⟨PR.blind, va_recv hK (sub_X_G (μ := μ) hP) (ci := 2) (q0 := 0) rfl rfl, fun U hU hW => ⟨rfl, by rw [hU]; exact (hC.at hS hZ).warm hW, by rw [hU]; exact (sub_X_G (μ := μ) hP)⟩⟩ rfl rfl hl.1 rfl (lv_room (Nat.le_of_ble_eq_true rfl)) dX4_waysWith_11 ⟨Nat.le_of_ble_eq_true rfl, Nat.le_of_ble_eq_true rfl⟩) ?_
    refine lv_if_eq (tgt := 19) hx hb dX4_waysWith_14 (by decide) (fun hc => ?_) (fun hc => ?_)
    · have h := iteT hc h
      refine lv_aload_n hx hb dX4_waysWith_19 rfl (lv_at hl 0 rfl) ?_
      refine va_get hx hb hts inX4 hown hK hP 0 rfl rfl 3 (by decide) (hts _ qw160) (fun _ h9 => h9) rfl dX4_waysWith_20 ?_
      refine lv_aload_n hx hb dX4_waysWith_23 rfl (lv_at hl 0 rfl) ?_
      refine va_get hx hb hts inX4 hown hK hP 0 rfl rfl 4 (by decide) (hts _ qw161) (fun _ h9 => h9) rfl dX4_waysWith_24 ?_
      obtain ⟨r3, er3, h⟩ := obind h
      refine call_R (va_runV (As := []) (rest := [.ref (A 0)]) ⟨hx, hb, hml, hown, hts⟩ (c_X1_freeCells l z0 D t G ((x_wide μ), (x_high μ), (x_pond μ), (x_walls μ), (x_paved μ), (x_tc μ), (x_flips μ), (x_refused μ), (x_names μ)) _ er3) (kV hts qw242 qw243 qw244 qw8 qw245 ok_X1_freeCells ⟨Nat.le_of_ble_eq_true rfl, Nat.le_of_ble_eq_true rfl⟩) ⟨PR.blind, va_recv hK (sub_X_G (μ := μ) hP) (ci := 2) (q0 := 0) rfl rfl, fun U hU hW => ⟨rfl, by rw [hU]; exact (hC.at hS hZ).warm hW, by rw [hU]; exact (sub_X_G (μ := μ) hP)⟩⟩ rfl rfl hl.1 rfl (lv_room (Nat.le_of_ble_eq_true rfl)) dX4_waysWith_27 ⟨Nat.le_of_ble_eq_true rfl, Nat.le_of_ble_eq_true rfl⟩) ?_
      refine lv_iload_n hx hb dX4_waysWith_30 rfl (lv_at hl 1 rfl) ?_
      refine lv_iload_n hx hb dX4_waysWith_31 rfl (lv_at hl 2 rfl) ?_
      refine lv_iload_n hx hb dX4_waysWith_32 rfl (lv_at hl 3 rfl) ?_
      obtain ⟨r4, er4, h⟩ := obind h
      refine call_R (va_runS (As := [.int a1, .int a2, .int a3]) (rest := [.long r3, .ref (A 0)]) ⟨hx, hb, hml, hown, hts⟩ (c_X4_cellsOf l z0 D t a1 a2 a3 _ er4) (kS hts qw619 qw312 qw1 qw313 ok_X4_cellsOf ⟨Nat.le_of_ble_eq_true rfl, Nat.le_of_ble_eq_true rfl⟩) ⟨PR.blind, fun U hU hW => ⟨rfl, by rw [hU]; exact (hC.at hS hZ).warm hW, by rw [hU]; exact va_P_nil⟩⟩ rfl rfl hl.1 rfl (lv_room (Nat.le_of_ble_eq_true rfl)) dX4_waysWith_33 ⟨Nat.le_of_ble_eq_true rfl, Nat.le_of_ble_eq_true rfl⟩) ?_
      refine lv_ldc2 (v := (-1)) hx hb hown (hts _ qw620) dX4_waysWith_36 ?_
      refine lv_lxor hx hb dX4_waysWith_39 ?_
      refine lv_land hx hb dX4_waysWith_40 ?_
      obtain ⟨r5, er5, h⟩ := obind h
      refine call_M (va_runV (As := [.long (r3 &&& (r4 ^^^ (-1 : Int64)))]) (rest := []) ⟨hx, hb, hml, hown, hts⟩ (c_X2_waysToPave l z0 D t A B ((x_rest μ), (x_takes μ), (x_u1 μ), (x_u2 μ), (x_hsz μ), (x_hwin μ), (x_hway μ), (x_nsz μ), (x_nwin μ), (x_nway μ)) (r3 &&& (r4 ^^^ (-1 : Int64))) _ H.size er5) (kV hts qw255 qw256 qw257 qw6 qw258 ok_X2_waysToPave ⟨Nat.le_of_ble_eq_true rfl, Nat.le_of_ble_eq_true rfl⟩) ⟨PM.blind, va_recv hK (sub_X_V (μ := μ) hP) (ci := 3) (q0 := 0) rfl rfl, fun U hU hW => ⟨rfl, by rw [hU]; exact (hC.at hS hZ).warm hW, by rw [hU], by rw [hU]; exact (sub_X_V (μ := μ) hP), ⟨(subD_X_V (μ := μ) hD).1, fun _ _ h9 => Or.inl (in_map (L := (VL A B ((x_rest μ), (x_takes μ), (x_u1 μ), (x_u2 μ), (x_hsz μ), (x_hwin μ), (x_hway μ), (x_nsz μ), (x_nwin μ), (x_nway μ)))) rfl h9)⟩, fun q hq => hZ q (OA.ofD (subD_X_V (μ := μ) hD) rfl hSz q hq)⟩⟩ rfl rfl hl.1 rfl (lv_room (Nat.le_of_ble_eq_true rfl)) dX4_waysWith_41 ⟨Nat.le_of_ble_eq_true rfl, Nat.le_of_ble_eq_true rfl⟩) hS (OA.ofD (subD_X_V (μ := μ) hD) rfl hSz) (fun H locs hP1 hD1 hS _ hk1 => ?_)
      obtain ⟨hP, hD⟩ := back_X_V (μ := μ) hP hD hk1 (OA.ofD (subD_X_V (μ := μ) hD) rfl hSz) hP1 hD1
      have hP : va_P D vwCl (XW x0 s0 s1 e0 E A B G T t (x_length μ, x_codes μ, x_rest μ, r5.2.1, r5.2.2.1, r5.2.2.2.1, r5.2.2.2.2.1, r5.2.2.2.2.2.1, r5.2.2.2.2.2.2.1, r5.2.2.2.2.2.2.2.1, r5.2.2.2.2.2.2.2.2.1, r5.2.2.2.2.2.2.2.2.2, x_wide μ, x_high μ, x_pond μ, x_walls μ, x_paved μ, x_tc μ, x_flips μ, x_refused μ, x_names μ, x_sl μ, x_lmod μ, x_lsize μ)) H := hP
      have hD : va_D (OA (XL x0 s0 s1 e0 E A B G T μ) s.heap.size) (XW x0 s0 s1 e0 E A B G T t (x_length μ, x_codes μ, x_rest μ, r5.2.1, r5.2.2.1, r5.2.2.2.1, r5.2.2.2.2.1, r5.2.2.2.2.2.1, r5.2.2.2.2.2.2.1, r5.2.2.2.2.2.2.2.1, r5.2.2.2.2.2.2.2.2.1, r5.2.2.2.2.2.2.2.2.2, x_wide μ, x_high μ, x_pond μ, x_walls μ, x_paved μ, x_tc μ, x_flips μ, x_refused μ, x_names μ, x_sl μ, x_lmod μ, x_lsize μ)) := hD
      have hSz : s.heap.size ≤ H.size := hS.1
      obtain rfl := Sum.inl.inj (Option.some.inj h)
      exact W.iret hx hb hr (fun t ht hW => ⟨rfl, by rw [ht]; exact hP, hD, hS.F ht⟩) hS.2.2 dX4_waysWith_44
    · have h := iteF hc h
      refine lv_iconst (v := (-1)) hx hb dX4_waysWith_17 (by decide) ?_
      obtain rfl := Sum.inl.inj (Option.some.inj h)
      exact W.iret hx hb hr (fun t ht hW => ⟨rfl, by rw [ht]; exact hP, hD, hS.F ht⟩) hS.2.2 dX4_waysWith_18
  · replace h := sumR h
    exact absurd (Option.some.inj h) (fun z => by cases z)

abbrev rx_X4_waysWith : Room := { frames := 7, cells := 1, slots := 6, locals := 140 }
set_option maxHeartbeats 4000000 in
set_option maxRecDepth 100000 in
theorem x_X4_waysWith (l : Launch) (hl9 : l.stackTraces = false) (z0 : Nat) (D : va_G) (t : Nat → ClassId) (x0 : Nat) (s0 : Nat) (s1 : Nat) (e0 : Nat) (E : Nat → Nat) (A : Nat → Nat) (B : Nat → Nat) (G : Nat → Nat) (T : va_W) (μ : XS) (a1 : Int32) (a2 : Int32) (a3 : Int32) (xE : String) (sz : Nat) (h : f_X4_waysWith μ a1 a2 a3 = some (.inr xE)) : vx_Met l yX4_waysWith (ws_ yX4_waysWith cX4_waysWith 4 (some .int)) rx_X4_waysWith (PM z0 D t [.ref (x0), .int a1, .int a2, .int a3] (XW x0 s0 s1 e0 E A B G T t μ) (XL x0 s0 s1 e0 E A B G T μ) sz) (fun _ _ _ _ => False) (XM xE D (XW x0 s0 s1 e0 E A B G T t μ) (XL x0 s0 s1 e0 E A B G T μ) sz) 1 6 (OA (XL x0 s0 s1 e0 E A B G T μ) sz) := by
  refine vx_ofW (cc := cX4_waysWith) (maxL := 4) (ret := (some .int)) (by decide) rfl ?_
  intro p e s m args below meth c s₁ Bo hml hT hv
  obtain ⟨rfl, hC, hsz, hP, hD, hZ⟩ := hv
  have hx := Bo.exec
  have hb := Bo.bytes
  have hr := Bo.returns
  have hts : ∀ w ∈ LA, w.before _ s = true := fun w hw => atoms_spec (ws := ws_ yX4_waysWith cX4_waysWith 4 (some .int)) Bo.pre w (List.mem_cons_of_mem _ hw)
  have hown : s.vm.findClass RX4 = some m.cls := findClass_of_methodNamed Bo.named
  have hlocks := Bo.notSynchronized
  have hK := hC.1
  subst hsz
  have hl := lv_entry ([.ref (x0), .int a1, .int a2, .int a3]) (n := 4) (Nat.le_of_ble_eq_true rfl)
  rw [lg_entry_eq]
  generalize (lg_sl ([.ref (x0), .int a1, .int a2, .int a3]) ++ List.replicate (4 - (lg_sl ([.ref (x0), .int a1, .int a2, .int a3])).length) Slot.unset).toArray = ls at hl ⊢
  have hl : lv_has ls 4 [(0, .ref (x0)), (1, .int a1), (2, .int a2), (3, .int a3)] := hl
  suffices K9 : ∀ (H : Heap) (locs : List Loc), va_P D vwCl (XW x0 s0 s1 e0 E A B G T t μ) H → va_S (OA (XL x0 s0 s1 e0 E A B G T μ) s.heap.size) s.heap H locs → W p l e (headSpec (ws_ yX4_waysWith cX4_waysWith 4 (some .int)) rx_X4_waysWith).room s m ([.ref (x0), .int a1, .int a2, .int a3] : List Value).toArray below meth c H locs 0 0 (vx_MQ below (fun _ _ _ _ => False) (XM xE D (XW x0 s0 s1 e0 E A B G T t μ) (XL x0 s0 s1 e0 E A B G T μ) s.heap.size) ([.ref (x0), .int a1, .int a2, .int a3] : List Value).toArray s 1 6 (OA (XL x0 s0 s1 e0 E A B G T μ) s.heap.size)) (F0 m 0 ls []) from K9 s.heap [] hP va_S.rf
  intro H locs hP hS
  have hSz : s.heap.size ≤ H.size := hS.1
  unfold f_X4_waysWith at h
  refine lv_iload_n hx hb dX4_waysWith_0 rfl (lv_at hl 3 rfl) ?_
  obtain ⟨r1o, er1, h⟩ := obind h
  rcases r1o with r1 | Er1
  · replace h := sumL h
    refine call_R (va_runS (As := [.int a3]) (rest := []) ⟨hx, hb, hml, hown, hts⟩ (c_X4_requireTurn l z0 D t a3 _ er1) (kS hts qw614 qw615 qw1 qw616 ok_X4_requireTurn ⟨Nat.le_of_ble_eq_true rfl, Nat.le_of_ble_eq_true rfl⟩) ⟨PR.blind, fun U hU hW => ⟨rfl, by rw [hU]; exact (hC.at hS hZ).warm hW, by rw [hU]; exact va_P_nil⟩⟩ rfl rfl hl.1 rfl (lv_room (Nat.le_of_ble_eq_true rfl)) dX4_waysWith_1 ⟨Nat.le_of_ble_eq_true rfl, Nat.le_of_ble_eq_true rfl⟩) ?_
    refine lv_aload_n hx hb dX4_waysWith_4 rfl (lv_at hl 0 rfl) ?_
    refine va_get hx hb hts inX4 hown hK hP 0 rfl rfl 4 (by decide) (hts _ qw161) (fun _ h9 => h9) rfl dX4_waysWith_5 ?_
    refine lv_iload_n hx hb dX4_waysWith_8 rfl (lv_at hl 1 rfl) ?_
    refine lv_iload_n hx hb dX4_waysWith_9 rfl (lv_at hl 2 rfl) ?_
    refine lv_iload_n hx hb dX4_waysWith_10 rfl (lv_at hl 3 rfl) ?_
    obtain ⟨r2, er2, h⟩ := obind h
    refine call_R (va_runV (As := [.int a1, .int a2, .int a3]) (rest := []) ⟨hx, hb, hml, hown, hts⟩ (c_X1_whyRefused l z0 D t G ((x_wide μ), (x_high μ), (x_pond μ), (x_walls μ), (x_paved μ), (x_tc μ), (x_flips μ), (x_refused μ), (x_names μ)) a1 a2 a3 _ er2) (kV hts qw618 qw359 qw360 qw8 qw361 ok_X1_whyRefused ⟨Nat.le_of_ble_eq_true rfl, Nat.le_of_ble_eq_true rfl⟩) ⟨PR.blind, va_recv hK (sub_X_G (μ := μ) hP) (ci := 2) (q0 := 0) rfl rfl, fun U hU hW => ⟨rfl, by rw [hU]; exact (hC.at hS hZ).warm hW, by rw [hU]; exact (sub_X_G (μ := μ) hP)⟩⟩ rfl rfl hl.1 rfl (lv_room (Nat.le_of_ble_eq_true rfl)) dX4_waysWith_11 ⟨Nat.le_of_ble_eq_true rfl, Nat.le_of_ble_eq_true rfl⟩) ?_
    refine lv_if_eq (tgt := 19) hx hb dX4_waysWith_14 (by decide) (fun hc => ?_) (fun hc => ?_)
    · have h := iteT hc h
      refine lv_aload_n hx hb dX4_waysWith_19 rfl (lv_at hl 0 rfl) ?_
      refine va_get hx hb hts inX4 hown hK hP 0 rfl rfl 3 (by decide) (hts _ qw160) (fun _ h9 => h9) rfl dX4_waysWith_20 ?_
      refine lv_aload_n hx hb dX4_waysWith_23 rfl (lv_at hl 0 rfl) ?_
      refine va_get hx hb hts inX4 hown hK hP 0 rfl rfl 4 (by decide) (hts _ qw161) (fun _ h9 => h9) rfl dX4_waysWith_24 ?_
      obtain ⟨r3, er3, h⟩ := obind h
      refine call_R (va_runV (As := []) (rest := [.ref (A 0)]) ⟨hx, hb, hml, hown, hts⟩ (c_X1_freeCells l z0 D t G ((x_wide μ), (x_high μ), (x_pond μ), (x_walls μ), (x_paved μ), (x_tc μ), (x_flips μ), (x_refused μ), (x_names μ)) _ er3) (kV hts qw242 qw243 qw244 qw8 qw245 ok_X1_freeCells ⟨Nat.le_of_ble_eq_true rfl, Nat.le_of_ble_eq_true rfl⟩) ⟨PR.blind, va_recv hK (sub_X_G (μ := μ) hP) (ci := 2) (q0 := 0) rfl rfl, fun U hU hW => ⟨rfl, by rw [hU]; exact (hC.at hS hZ).warm hW, by rw [hU]; exact (sub_X_G (μ := μ) hP)⟩⟩ rfl rfl hl.1 rfl (lv_room (Nat.le_of_ble_eq_true rfl)) dX4_waysWith_27 ⟨Nat.le_of_ble_eq_true rfl, Nat.le_of_ble_eq_true rfl⟩) ?_
      refine lv_iload_n hx hb dX4_waysWith_30 rfl (lv_at hl 1 rfl) ?_
      refine lv_iload_n hx hb dX4_waysWith_31 rfl (lv_at hl 2 rfl) ?_
      refine lv_iload_n hx hb dX4_waysWith_32 rfl (lv_at hl 3 rfl) ?_
      obtain ⟨r4, er4, h⟩ := obind h
      refine call_R (va_runS (As := [.int a1, .int a2, .int a3]) (rest := [.long r3, .ref (A 0)]) ⟨hx, hb, hml, hown, hts⟩ (c_X4_cellsOf l z0 D t a1 a2 a3 _ er4) (kS hts qw619 qw312 qw1 qw313 ok_X4_cellsOf ⟨Nat.le_of_ble_eq_true rfl, Nat.le_of_ble_eq_true rfl⟩) ⟨PR.blind, fun U hU hW => ⟨rfl, by rw [hU]; exact (hC.at hS hZ).warm hW, by rw [hU]; exact va_P_nil⟩⟩ rfl rfl hl.1 rfl (lv_room (Nat.le_of_ble_eq_true rfl)) dX4_waysWith_33 ⟨Nat.le_of_ble_eq_true rfl, Nat.le_of_ble_eq_true rfl⟩) ?_
      refine lv_ldc2 (v := (-1)) hx hb hown (hts _ qw620) dX4_waysWith_36 ?_
      refine lv_lxor hx hb dX4_waysWith_39 ?_
      refine lv_land hx hb dX4_waysWith_40 ?_
      obtain ⟨r5, er5, h⟩ := obind h
      refine call_M (va_runV (As := [.long (r3 &&& (r4 ^^^ (-1 : Int64)))]) (rest := []) ⟨hx, hb, hml, hown, hts⟩ (c_X2_waysToPave l z0 D t A B ((x_rest μ), (x_takes μ), (x_u1 μ), (x_u2 μ), (x_hsz μ), (x_hwin μ), (x_hway μ), (x_nsz μ), (x_nwin μ), (x_nway μ)) (r3 &&& (r4 ^^^ (-1 : Int64))) _ H.size er5) (kV hts qw255 qw256 qw257 qw6 qw258 ok_X2_waysToPave ⟨Nat.le_of_ble_eq_true rfl, Nat.le_of_ble_eq_true rfl⟩) ⟨PM.blind, va_recv hK (sub_X_V (μ := μ) hP) (ci := 3) (q0 := 0) rfl rfl, fun U hU hW => ⟨rfl, by rw [hU]; exact (hC.at hS hZ).warm hW, by rw [hU], by rw [hU]; exact (sub_X_V (μ := μ) hP), ⟨(subD_X_V (μ := μ) hD).1, fun _ _ h9 => Or.inl (in_map (L := (VL A B ((x_rest μ), (x_takes μ), (x_u1 μ), (x_u2 μ), (x_hsz μ), (x_hwin μ), (x_hway μ), (x_nsz μ), (x_nwin μ), (x_nway μ)))) rfl h9)⟩, fun q hq => hZ q (OA.ofD (subD_X_V (μ := μ) hD) rfl hSz q hq)⟩⟩ rfl rfl hl.1 rfl (lv_room (Nat.le_of_ble_eq_true rfl)) dX4_waysWith_41 ⟨Nat.le_of_ble_eq_true rfl, Nat.le_of_ble_eq_true rfl⟩) hS (OA.ofD (subD_X_V (μ := μ) hD) rfl hSz) (fun H locs hP1 hD1 hS _ hk1 => ?_)
      obtain ⟨hP, hD⟩ := back_X_V (μ := μ) hP hD hk1 (OA.ofD (subD_X_V (μ := μ) hD) rfl hSz) hP1 hD1
      have hP : va_P D vwCl (XW x0 s0 s1 e0 E A B G T t (x_length μ, x_codes μ, x_rest μ, r5.2.1, r5.2.2.1, r5.2.2.2.1, r5.2.2.2.2.1, r5.2.2.2.2.2.1, r5.2.2.2.2.2.2.1, r5.2.2.2.2.2.2.2.1, r5.2.2.2.2.2.2.2.2.1, r5.2.2.2.2.2.2.2.2.2, x_wide μ, x_high μ, x_pond μ, x_walls μ, x_paved μ, x_tc μ, x_flips μ, x_refused μ, x_names μ, x_sl μ, x_lmod μ, x_lsize μ)) H := hP
      have hD : va_D (OA (XL x0 s0 s1 e0 E A B G T μ) s.heap.size) (XW x0 s0 s1 e0 E A B G T t (x_length μ, x_codes μ, x_rest μ, r5.2.1, r5.2.2.1, r5.2.2.2.1, r5.2.2.2.2.1, r5.2.2.2.2.2.1, r5.2.2.2.2.2.2.1, r5.2.2.2.2.2.2.2.1, r5.2.2.2.2.2.2.2.2.1, r5.2.2.2.2.2.2.2.2.2, x_wide μ, x_high μ, x_pond μ, x_walls μ, x_paved μ, x_tc μ, x_flips μ, x_refused μ, x_names μ, x_sl μ, x_lmod μ, x_lsize μ)) := hD
      have hSz : s.heap.size ≤ H.size := hS.1
      exact absurd (Option.some.inj h) (fun z => by cases z)
    · have h := iteF hc h
      refine lv_iconst (v := (-1)) hx hb dX4_waysWith_17 (by decide) ?_
      exact absurd (Option.some.inj h) (fun z => by cases z)
  · replace h := sumR h
    obtain rfl := Sum.inr.inj (Option.some.inj h)
    refine call_X (vx_runS (As := [.int a3]) (rest := []) ⟨hx, hb, hml, hown, hts⟩ (x_X4_requireTurn l hl9 z0 D t a3 _ H.size er1) (kS hts qw614 qw615 qw1 qw616 ok_X4_requireTurn ⟨Nat.le_of_ble_eq_true rfl, Nat.le_of_ble_eq_true rfl⟩) ⟨PM.blind, fun U hU hW => ⟨rfl, by rw [hU]; exact (hC.at hS hZ).warm hW, by rw [hU], by rw [hU]; exact va_P_nil, ⟨(va_D_nil (A := OA [] s.heap.size)).1, fun _ _ h9 => Or.inl (in_map (L := []) rfl h9)⟩, fun q hq => hZ q (OA.nil hSz q hq)⟩⟩ rfl rfl hl.1 rfl (lv_room (Nat.le_of_ble_eq_true rfl)) dX4_waysWith_1 ⟨Nat.le_of_ble_eq_true rfl, Nat.le_of_ble_eq_true rfl⟩) hS (OA.nil hSz) (fun H locs q9 ce9 hP1 hD1 hS hsz1 hk1 hce hcv hcc => ?_)
    have hP : va_P D vwCl (XW x0 s0 s1 e0 E A B G T t μ) H := va_P.keptN hP hk1
    exact vx_out (fun x9 hx9 => (hT x9 hx9).elim) hlocks hce hcv hcc (fun t9 h8 _ => XM.mk2 hP hD hS h8) hS.2.2 (Nat.le_of_ble_eq_true rfl) (Nat.le_of_ble_eq_true rfl)
