abbrev rm_X4_garden : Room := { frames := 10, cells := 3, slots := 40, locals := 340 }
theorem ok_X4_garden : okY yX4_garden 2 := ⟨by decide +kernel, by decide +kernel, by decide +kernel⟩
set_option maxHeartbeats 4000000 in
set_option maxRecDepth 100000 in
theorem c_X4_garden (l : Launch) (z0 : Nat) (D : va_G) (t : Nat → ClassId) (x0 : Nat) (s0 : Nat) (s1 : Nat) (e0 : Nat) (E : Nat → Nat) (A : Nat → Nat) (B : Nat → Nat) (G : Nat → Nat) (T : va_W) (μ : XS) (a1 : Int32) (a2 : Int32) (res : Int32 × (Int32) × (Int32) × (Int32) × (Int64) × (Int64) × (Int32) × (Int32) × (Int32)) (sz : Nat) (L : List GS) (S0 S1 : Option GS) (hRep : Rep t e0 T L (x_sl μ) S0 S1) (hnL : x_lsize μ = nI L.length) (h : f_X4_garden μ a1 a2 = some (.inl res)) : Met l yX4_garden (ws_ yX4_garden cX4_garden 3 (some .int)) rm_X4_garden (PM z0 D t [.ref (x0), .int a1, .int a2] (XW x0 s0 s1 e0 E A B G T t μ) (XL x0 s0 s1 e0 E A B G T μ) sz) (QS (some (.int res.1)) D (fun e T => (XW x0 s0 s1 e E A B G T t (x_length μ, x_codes μ, x_rest μ, x_takes μ, x_u1 μ, x_u2 μ, x_hsz μ, x_hwin μ, x_hway μ, x_nsz μ, x_nwin μ, x_nway μ, res.2.1, res.2.2.1, res.2.2.2.1, res.2.2.2.2.1, res.2.2.2.2.2.1, res.2.2.2.2.2.2.1, x_flips μ, x_refused μ, x_names μ, x_sl μ, res.2.2.2.2.2.2.2.1, res.2.2.2.2.2.2.2.2))) (fun e T => Rep t e T (svL L (gsX μ)) (x_sl μ) S0 S1) (XL x0 s0 s1 e0 E A B G T μ) sz) 3 40 (OA (XL x0 s0 s1 e0 E A B G T μ) sz) := by
  refine Met.ofW (cc := cX4_garden) (maxL := 3) (ret := (some .int)) (by decide) rfl ?_
  intro p e s m args below meth c s₁ Bo hml hv
  obtain ⟨rfl, hC, hsz, hP, hD, hZ⟩ := hv
  have hx := Bo.exec
  have hb := Bo.bytes
  have hr := Bo.returns
  have hts : ∀ w ∈ LA, w.before _ s = true := fun w hw => atoms_spec (ws := ws_ yX4_garden cX4_garden 3 (some .int)) Bo.pre w (List.mem_cons_of_mem _ hw)
  have hown : s.vm.findClass RX4 = some m.cls := findClass_of_methodNamed Bo.named
  have hlocks := Bo.notSynchronized
  have hK := hC.1
  subst hsz
  have hl := lv_entry ([.ref (x0), .int a1, .int a2]) (n := 3) (Nat.le_of_ble_eq_true rfl)
  rw [lg_entry_eq]
  generalize (lg_sl ([.ref (x0), .int a1, .int a2]) ++ List.replicate (3 - (lg_sl ([.ref (x0), .int a1, .int a2])).length) Slot.unset).toArray = ls at hl ⊢
  have hl : lv_has ls 3 [(0, .ref (x0)), (1, .int a1), (2, .int a2)] := hl
  suffices K9 : ∀ (H : Heap) (locs : List Loc), va_P D vwCl (XW x0 s0 s1 e0 E A B G T t μ) H → va_S (OA (XL x0 s0 s1 e0 E A B G T μ) s.heap.size) s.heap H locs → W p l e (headSpec (ws_ yX4_garden cX4_garden 3 (some .int)) rm_X4_garden).room s m ([.ref (x0), .int a1, .int a2] : List Value).toArray below meth c H locs 0 0 (MQ below (QS (some (.int res.1)) D (fun e T => (XW x0 s0 s1 e E A B G T t (x_length μ, x_codes μ, x_rest μ, x_takes μ, x_u1 μ, x_u2 μ, x_hsz μ, x_hwin μ, x_hway μ, x_nsz μ, x_nwin μ, x_nway μ, res.2.1, res.2.2.1, res.2.2.2.1, res.2.2.2.2.1, res.2.2.2.2.2.1, res.2.2.2.2.2.2.1, x_flips μ, x_refused μ, x_names μ, x_sl μ, res.2.2.2.2.2.2.2.1, res.2.2.2.2.2.2.2.2))) (fun e T => Rep t e T (svL L (gsX μ)) (x_sl μ) S0 S1) (XL x0 s0 s1 e0 E A B G T μ) s.heap.size) ([.ref (x0), .int a1, .int a2] : List Value).toArray s 3 40 (OA (XL x0 s0 s1 e0 E A B G T μ) s.heap.size)) (F0 m 0 ls []) from K9 s.heap [] hP va_S.rf
  intro H locs hP hS
  have hSz : s.heap.size ≤ H.size := hS.1
  unfold f_X4_garden at h
  refine lv_iload_n hx hb dX4_garden_0 rfl (lv_at hl 1 rfl) ?_
  obtain ⟨r1, er1, h⟩ := obind h
  refine call_R (va_runS (As := [.int a1]) (rest := []) ⟨hx, hb, hml, hown, hts⟩ (c_X4_isSide l z0 D t a1 _ er1) (kS hts qw386 qw387 qw1 qw388 ok_X4_isSide ⟨Nat.le_of_ble_eq_true rfl, Nat.le_of_ble_eq_true rfl⟩) ⟨PR.blind, fun U hU hW => ⟨rfl, by rw [hU]; exact (hC.at hS hZ).warm hW, by rw [hU]; exact va_P_nil⟩⟩ rfl rfl hl.1 rfl (lv_room (Nat.le_of_ble_eq_true rfl)) dX4_garden_1 ⟨Nat.le_of_ble_eq_true rfl, Nat.le_of_ble_eq_true rfl⟩) ?_
  refine lv_if_eq (tgt := 14) hx hb dX4_garden_4 (by decide) (fun hc => ?_) (fun hc => ?_)
  · have h := iteT hc h
    exact absurd (Option.some.inj h) (fun z => by cases z)
  · have h := iteF hc h
    refine lv_iload_n hx hb dX4_garden_7 rfl (lv_at hl 2 rfl) ?_
    obtain ⟨r2, er2, h⟩ := obind h
    refine call_R (va_runS (As := [.int a2]) (rest := []) ⟨hx, hb, hml, hown, hts⟩ (c_X4_isSide l z0 D t a2 _ er2) (kS hts qw386 qw387 qw1 qw388 ok_X4_isSide ⟨Nat.le_of_ble_eq_true rfl, Nat.le_of_ble_eq_true rfl⟩) ⟨PR.blind, fun U hU hW => ⟨rfl, by rw [hU]; exact (hC.at hS hZ).warm hW, by rw [hU]; exact va_P_nil⟩⟩ rfl rfl hl.1 rfl (lv_room (Nat.le_of_ble_eq_true rfl)) dX4_garden_8 ⟨Nat.le_of_ble_eq_true rfl, Nat.le_of_ble_eq_true rfl⟩) ?_
    refine lv_if_ne (tgt := 24) hx hb dX4_garden_11 (by decide) (fun hc => ?_) (fun hc => ?_)
    · have h := iteF hc h
      refine lv_aload_n hx hb dX4_garden_24 rfl (lv_at hl 0 rfl) ?_
      obtain ⟨r3, er3, h⟩ := obind h
      refine call_S (va_runV (As := []) (rest := []) ⟨hx, hb, hml, hown, hts⟩ (c_X4_saveState l z0 D t x0 s0 s1 e0 E A B G T μ L S0 S1 H.size hRep hnL) (kV hts qw457 qw459 qs15 qw1 qw460 ok_X4_saveState ⟨Nat.le_of_ble_eq_true rfl, Nat.le_of_ble_eq_true rfl⟩) ⟨PM.blind, va_recv hK hP (ci := 5) (q0 := 0) rfl rfl, fun U hU hW => ⟨rfl, by rw [hU]; exact (hC.at hS hZ).warm hW, by rw [hU], by rw [hU]; exact hP, ⟨hD.1, fun _ _ h9 => Or.inl (in_map (L := (XL x0 s0 s1 e0 E A B G T μ)) rfl h9)⟩, fun q hq => hZ q (OA.ofD hD rfl hSz q hq)⟩⟩ rfl rfl hl.1 rfl (lv_room (Nat.le_of_ble_eq_true rfl)) dX4_garden_25 ⟨Nat.le_of_ble_eq_true rfl, Nat.le_of_ble_eq_true rfl⟩) hS (OA.ofD hD rfl hSz) (fun e1 T1 H locs hRp hP hD1 hS _ _ => ?_)
      have hP : va_P D vwCl (XW x0 s0 s1 e1 E A B G T1 t (svX μ)) H := hP
      rw [svX_eq er3] at hP hD1
      have hP : va_P D vwCl (XW x0 s0 s1 e1 E A B G T1 t (x_lsize' (x_lmod' μ r3.1) r3.2)) H := hP
      have hD : va_D (OA (XL x0 s0 s1 e0 E A B G T μ) s.heap.size) (XW x0 s0 s1 e1 E A B G T1 t (x_lsize' (x_lmod' μ r3.1) r3.2)) := hD1.weaken (fun _ q _ h9 => OA.ofD hD rfl hSz q.1 h9)
      have hSz : s.heap.size ≤ H.size := hS.1
      refine W.widen (k := 3) (n := 40) (by omega) (by omega) ?_
      refine lv_aload_n hx hb dX4_garden_28 rfl (lv_at hl 0 rfl) ?_
      refine va_get hx hb hts inX4 hown hK hP 0 rfl rfl 4 (by decide) (hts _ qw159) (fun _ h9 => h9) rfl dX4_garden_29 ?_
      refine lv_iload_n hx hb dX4_garden_32 rfl (lv_at hl 1 rfl) ?_
      refine lv_iload_n hx hb dX4_garden_33 rfl (lv_at hl 2 rfl) ?_
      refine lv_iconst (v := (0)) hx hb dX4_garden_34 (by decide) ?_
      refine lv_lconst (v := (0)) hx hb dX4_garden_35 (by decide) ?_
      obtain ⟨r4, er4, h⟩ := obind h
      refine call_M (va_runV (As := [.int a1, .int a2, .int (0 : Int32), .long (0 : Int64)]) (rest := []) ⟨hx, hb, hml, hown, hts⟩ (c_X1_layOut l z0 D t G ((x_wide μ), (x_high μ), (x_pond μ), (x_walls μ), (x_paved μ), (x_tc μ), (x_flips μ), (x_refused μ), (x_names μ)) a1 a2 (0 : Int32) (0 : Int64) _ H.size er4) (kV hts qw540 qw541 qw542 qw8 qw543 ok_X1_layOut ⟨Nat.le_of_ble_eq_true rfl, Nat.le_of_ble_eq_true rfl⟩) ⟨PM.blind, va_recv hK (sub_X_G (μ := x_lsize' (x_lmod' μ r3.1) r3.2) hP) (ci := 2) (q0 := 0) rfl rfl, fun U hU hW => ⟨rfl, by rw [hU]; exact (hC.at hS hZ).warm hW, by rw [hU], by rw [hU]; exact (sub_X_G (μ := x_lsize' (x_lmod' μ r3.1) r3.2) hP), ⟨(subD_X_G (μ := x_lsize' (x_lmod' μ r3.1) r3.2) hD).1, fun _ _ h9 => Or.inl (in_map (L := (GL G)) rfl h9)⟩, fun q hq => hZ q (OA.ofD (subD_X_G (μ := x_lsize' (x_lmod' μ r3.1) r3.2) hD) rfl hSz q hq)⟩⟩ rfl rfl hl.1 rfl (lv_room (Nat.le_of_ble_eq_true rfl)) dX4_garden_36 ⟨Nat.le_of_ble_eq_true rfl, Nat.le_of_ble_eq_true rfl⟩) hS (OA.ofD (subD_X_G (μ := x_lsize' (x_lmod' μ r3.1) r3.2) hD) rfl hSz) (fun H locs hP1 hD1 hS _ hk1 => ?_)
      obtain ⟨hP, hD⟩ := back_X_G (μ := x_lsize' (x_lmod' μ r3.1) r3.2) hP hD hk1 hP1
      have hP : va_P D vwCl (XW x0 s0 s1 e1 E A B G T1 t (x_length μ, x_codes μ, x_rest μ, x_takes μ, x_u1 μ, x_u2 μ, x_hsz μ, x_hwin μ, x_hway μ, x_nsz μ, x_nwin μ, x_nway μ, r4.1, r4.2.1, r4.2.2.1, r4.2.2.2.1, r4.2.2.2.2.1, r4.2.2.2.2.2, x_flips μ, x_refused μ, x_names μ, x_sl μ, r3.1, r3.2)) H := hP
      have hD : va_D (OA (XL x0 s0 s1 e0 E A B G T μ) s.heap.size) (XW x0 s0 s1 e1 E A B G T1 t (x_length μ, x_codes μ, x_rest μ, x_takes μ, x_u1 μ, x_u2 μ, x_hsz μ, x_hwin μ, x_hway μ, x_nsz μ, x_nwin μ, x_nway μ, r4.1, r4.2.1, r4.2.2.1, r4.2.2.2.1, r4.2.2.2.2.1, r4.2.2.2.2.2, x_flips μ, x_refused μ, x_names μ, x_sl μ, r3.1, r3.2)) := hD
      have hSz : s.heap.size ≤ H.size := hS.1
      refine lv_iload_n hx hb dX4_garden_39 rfl (lv_at hl 1 rfl) ?_
      refine lv_iload_n hx hb dX4_garden_40 rfl (lv_at hl 2 rfl) ?_
      refine lv_imul hx hb dX4_garden_41 ?_
      obtain rfl := Sum.inl.inj (Option.some.inj h)
      exact W.iret hx hb hr (fun t ht hW => ⟨e1, T1, hRp, rfl, by rw [ht]; exact hP, hD, hS.F ht⟩) hS.2.2 dX4_garden_42
    · have h := iteT hc h
      exact absurd (Option.some.inj h) (fun z => by cases z)

abbrev rx_X4_garden : Room := { frames := 10, cells := 4, slots := 46, locals := 340 }
set_option maxHeartbeats 4000000 in
set_option maxRecDepth 100000 in
theorem x_X4_garden (l : Launch) (hl9 : l.stackTraces = false) (z0 : Nat) (D : va_G) (t : Nat → ClassId) (x0 : Nat) (s0 : Nat) (s1 : Nat) (e0 : Nat) (E : Nat → Nat) (A : Nat → Nat) (B : Nat → Nat) (G : Nat → Nat) (T : va_W) (μ : XS) (a1 : Int32) (a2 : Int32) (xE : String) (sz : Nat) (L : List GS) (S0 S1 : Option GS) (hRep : Rep t e0 T L (x_sl μ) S0 S1) (hnL : x_lsize μ = nI L.length) (h : f_X4_garden μ a1 a2 = some (.inr xE)) : vx_Met l yX4_garden (ws_ yX4_garden cX4_garden 3 (some .int)) rx_X4_garden (PM z0 D t [.ref (x0), .int a1, .int a2] (XW x0 s0 s1 e0 E A B G T t μ) (XL x0 s0 s1 e0 E A B G T μ) sz) (fun _ _ _ _ => False) (XM xE D (XW x0 s0 s1 e0 E A B G T t μ) (XL x0 s0 s1 e0 E A B G T μ) sz) 4 46 (OA (XL x0 s0 s1 e0 E A B G T μ) sz) := by
  refine vx_ofW (cc := cX4_garden) (maxL := 3) (ret := (some .int)) (by decide) rfl ?_
  intro p e s m args below meth c s₁ Bo hml hT hv
  obtain ⟨rfl, hC, hsz, hP, hD, hZ⟩ := hv
  have hx := Bo.exec
  have hb := Bo.bytes
  have hr := Bo.returns
  have hts : ∀ w ∈ LA, w.before _ s = true := fun w hw => atoms_spec (ws := ws_ yX4_garden cX4_garden 3 (some .int)) Bo.pre w (List.mem_cons_of_mem _ hw)
  have hown : s.vm.findClass RX4 = some m.cls := findClass_of_methodNamed Bo.named
  have hlocks := Bo.notSynchronized
  have hK := hC.1
  subst hsz
  have hl := lv_entry ([.ref (x0), .int a1, .int a2]) (n := 3) (Nat.le_of_ble_eq_true rfl)
  rw [lg_entry_eq]
  generalize (lg_sl ([.ref (x0), .int a1, .int a2]) ++ List.replicate (3 - (lg_sl ([.ref (x0), .int a1, .int a2])).length) Slot.unset).toArray = ls at hl ⊢
  have hl : lv_has ls 3 [(0, .ref (x0)), (1, .int a1), (2, .int a2)] := hl
  suffices K9 : ∀ (H : Heap) (locs : List Loc), va_P D vwCl (XW x0 s0 s1 e0 E A B G T t μ) H → va_S (OA (XL x0 s0 s1 e0 E A B G T μ) s.heap.size) s.heap H locs → W p l e (headSpec (ws_ yX4_garden cX4_garden 3 (some .int)) rx_X4_garden).room s m ([.ref (x0), .int a1, .int a2] : List Value).toArray below meth c H locs 0 0 (vx_MQ below (fun _ _ _ _ => False) (XM xE D (XW x0 s0 s1 e0 E A B G T t μ) (XL x0 s0 s1 e0 E A B G T μ) s.heap.size) ([.ref (x0), .int a1, .int a2] : List Value).toArray s 4 46 (OA (XL x0 s0 s1 e0 E A B G T μ) s.heap.size)) (F0 m 0 ls []) from K9 s.heap [] hP va_S.rf
  intro H locs hP hS
  have hSz : s.heap.size ≤ H.size := hS.1
  unfold f_X4_garden at h
  refine lv_iload_n hx hb dX4_garden_0 rfl (lv_at hl 1 rfl) ?_
  obtain ⟨r1, er1, h⟩ := obind h
  refine call_R (va_runS (As := [.int a1]) (rest := []) ⟨hx, hb, hml, hown, hts⟩ (c_X4_isSide l z0 D t a1 _ er1) (kS hts qw386 qw387 qw1 qw388 ok_X4_isSide ⟨Nat.le_of_ble_eq_true rfl, Nat.le_of_ble_eq_true rfl⟩) ⟨PR.blind, fun U hU hW => ⟨rfl, by rw [hU]; exact (hC.at hS hZ).warm hW, by rw [hU]; exact va_P_nil⟩⟩ rfl rfl hl.1 rfl (lv_room (Nat.le_of_ble_eq_true rfl)) dX4_garden_1 ⟨Nat.le_of_ble_eq_true rfl, Nat.le_of_ble_eq_true rfl⟩) ?_
  refine lv_if_eq (tgt := 14) hx hb dX4_garden_4 (by decide) (fun hc => ?_) (fun hc => ?_)
  · have h := iteT hc h
    obtain rfl := Sum.inr.inj (Option.some.inj h)
    obtain ⟨sa, hsa⟩ := hC.2.2.2.2.2.1 ("BentGardens", 47, "a side is not 2 to 8") (by decide +kernel)
    refine vx_throwS hx hb hl9 hown (cls := "java/lang/IllegalArgumentException") (names := ["java/lang/RuntimeException", "java/lang/Exception"]) (by decide) (by decide) (hts _ qw389) (hts _ qw16) hsa (at_words hts hC.2.1 at_IllegalArgumentException) ato_IllegalArgumentException (hC.2.2.2.2.2.2.2.1.narrow hZ) (hC.2.2.2.2.2.2.2.2.1.narrow hZ) hS (hl.1.trans hml.symm) dX4_garden_14 dX4_garden_17 dX4_garden_18 dX4_garden_20 dX4_garden_23 (fun x9 hx9 => (hT x9 hx9).elim) (Nat.le_of_ble_eq_true rfl) (Nat.le_of_ble_eq_true rfl) (Nat.le_of_ble_eq_true rfl) (Nat.le_of_ble_eq_true rfl) hlocks (fun t9 _ h8 h9 => XM.mk hP hD hS h8 h9) hS.2.2 (Nat.le_of_ble_eq_true rfl) (Nat.le_of_ble_eq_true rfl)
  · have h := iteF hc h
    refine lv_iload_n hx hb dX4_garden_7 rfl (lv_at hl 2 rfl) ?_
    obtain ⟨r2, er2, h⟩ := obind h
    refine call_R (va_runS (As := [.int a2]) (rest := []) ⟨hx, hb, hml, hown, hts⟩ (c_X4_isSide l z0 D t a2 _ er2) (kS hts qw386 qw387 qw1 qw388 ok_X4_isSide ⟨Nat.le_of_ble_eq_true rfl, Nat.le_of_ble_eq_true rfl⟩) ⟨PR.blind, fun U hU hW => ⟨rfl, by rw [hU]; exact (hC.at hS hZ).warm hW, by rw [hU]; exact va_P_nil⟩⟩ rfl rfl hl.1 rfl (lv_room (Nat.le_of_ble_eq_true rfl)) dX4_garden_8 ⟨Nat.le_of_ble_eq_true rfl, Nat.le_of_ble_eq_true rfl⟩) ?_
    refine lv_if_ne (tgt := 24) hx hb dX4_garden_11 (by decide) (fun hc => ?_) (fun hc => ?_)
    · have h := iteF hc h
      refine lv_aload_n hx hb dX4_garden_24 rfl (lv_at hl 0 rfl) ?_
      obtain ⟨r3, er3, h⟩ := obind h
      refine call_S (va_runV (As := []) (rest := []) ⟨hx, hb, hml, hown, hts⟩ (c_X4_saveState l z0 D t x0 s0 s1 e0 E A B G T μ L S0 S1 H.size hRep hnL) (kV hts qw457 qw459 qs15 qw1 qw460 ok_X4_saveState ⟨Nat.le_of_ble_eq_true rfl, Nat.le_of_ble_eq_true rfl⟩) ⟨PM.blind, va_recv hK hP (ci := 5) (q0 := 0) rfl rfl, fun U hU hW => ⟨rfl, by rw [hU]; exact (hC.at hS hZ).warm hW, by rw [hU], by rw [hU]; exact hP, ⟨hD.1, fun _ _ h9 => Or.inl (in_map (L := (XL x0 s0 s1 e0 E A B G T μ)) rfl h9)⟩, fun q hq => hZ q (OA.ofD hD rfl hSz q hq)⟩⟩ rfl rfl hl.1 rfl (lv_room (Nat.le_of_ble_eq_true rfl)) dX4_garden_25 ⟨Nat.le_of_ble_eq_true rfl, Nat.le_of_ble_eq_true rfl⟩) hS (OA.ofD hD rfl hSz) (fun e1 T1 H locs hRp hP hD1 hS _ _ => ?_)
      have hP : va_P D vwCl (XW x0 s0 s1 e1 E A B G T1 t (svX μ)) H := hP
      rw [svX_eq er3] at hP hD1
      have hP : va_P D vwCl (XW x0 s0 s1 e1 E A B G T1 t (x_lsize' (x_lmod' μ r3.1) r3.2)) H := hP
      have hD : va_D (OA (XL x0 s0 s1 e0 E A B G T μ) s.heap.size) (XW x0 s0 s1 e1 E A B G T1 t (x_lsize' (x_lmod' μ r3.1) r3.2)) := hD1.weaken (fun _ q _ h9 => OA.ofD hD rfl hSz q.1 h9)
      have hSz : s.heap.size ≤ H.size := hS.1
      refine W.widen (k := 3) (n := 40) (by omega) (by omega) ?_
      refine lv_aload_n hx hb dX4_garden_28 rfl (lv_at hl 0 rfl) ?_
      refine va_get hx hb hts inX4 hown hK hP 0 rfl rfl 4 (by decide) (hts _ qw159) (fun _ h9 => h9) rfl dX4_garden_29 ?_
      refine lv_iload_n hx hb dX4_garden_32 rfl (lv_at hl 1 rfl) ?_
      refine lv_iload_n hx hb dX4_garden_33 rfl (lv_at hl 2 rfl) ?_
      refine lv_iconst (v := (0)) hx hb dX4_garden_34 (by decide) ?_
      refine lv_lconst (v := (0)) hx hb dX4_garden_35 (by decide) ?_
      obtain ⟨r4, er4, h⟩ := obind h
      refine call_M (va_runV (As := [.int a1, .int a2, .int (0 : Int32), .long (0 : Int64)]) (rest := []) ⟨hx, hb, hml, hown, hts⟩ (c_X1_layOut l z0 D t G ((x_wide μ), (x_high μ), (x_pond μ), (x_walls μ), (x_paved μ), (x_tc μ), (x_flips μ), (x_refused μ), (x_names μ)) a1 a2 (0 : Int32) (0 : Int64) _ H.size er4) (kV hts qw540 qw541 qw542 qw8 qw543 ok_X1_layOut ⟨Nat.le_of_ble_eq_true rfl, Nat.le_of_ble_eq_true rfl⟩) ⟨PM.blind, va_recv hK (sub_X_G (μ := x_lsize' (x_lmod' μ r3.1) r3.2) hP) (ci := 2) (q0 := 0) rfl rfl, fun U hU hW => ⟨rfl, by rw [hU]; exact (hC.at hS hZ).warm hW, by rw [hU], by rw [hU]; exact (sub_X_G (μ := x_lsize' (x_lmod' μ r3.1) r3.2) hP), ⟨(subD_X_G (μ := x_lsize' (x_lmod' μ r3.1) r3.2) hD).1, fun _ _ h9 => Or.inl (in_map (L := (GL G)) rfl h9)⟩, fun q hq => hZ q (OA.ofD (subD_X_G (μ := x_lsize' (x_lmod' μ r3.1) r3.2) hD) rfl hSz q hq)⟩⟩ rfl rfl hl.1 rfl (lv_room (Nat.le_of_ble_eq_true rfl)) dX4_garden_36 ⟨Nat.le_of_ble_eq_true rfl, Nat.le_of_ble_eq_true rfl⟩) hS (OA.ofD (subD_X_G (μ := x_lsize' (x_lmod' μ r3.1) r3.2) hD) rfl hSz) (fun H locs hP1 hD1 hS _ hk1 => ?_)
      obtain ⟨hP, hD⟩ := back_X_G (μ := x_lsize' (x_lmod' μ r3.1) r3.2) hP hD hk1 hP1
      have hP : va_P D vwCl (XW x0 s0 s1 e1 E A B G T1 t (x_length μ, x_codes μ, x_rest μ, x_takes μ, x_u1 μ, x_u2 μ, x_hsz μ, x_hwin μ, x_hway μ, x_nsz μ, x_nwin μ, x_nway μ, r4.1, r4.2.1, r4.2.2.1, r4.2.2.2.1, r4.2.2.2.2.1, r4.2.2.2.2.2, x_flips μ, x_refused μ, x_names μ, x_sl μ, r3.1, r3.2)) H := hP
      have hD : va_D (OA (XL x0 s0 s1 e0 E A B G T μ) s.heap.size) (XW x0 s0 s1 e1 E A B G T1 t (x_length μ, x_codes μ, x_rest μ, x_takes μ, x_u1 μ, x_u2 μ, x_hsz μ, x_hwin μ, x_hway μ, x_nsz μ, x_nwin μ, x_nway μ, r4.1, r4.2.1, r4.2.2.1, r4.2.2.2.1, r4.2.2.2.2.1, r4.2.2.2.2.2, x_flips μ, x_refused μ, x_names μ, x_sl μ, r3.1, r3.2)) := hD
      have hSz : s.heap.size ≤ H.size := hS.1
      refine lv_iload_n hx hb dX4_garden_39 rfl (lv_at hl 1 rfl) ?_
      refine lv_iload_n hx hb dX4_garden_40 rfl (lv_at hl 2 rfl) ?_
      refine lv_imul hx hb dX4_garden_41 ?_
      exact absurd (Option.some.inj h) (fun z => by cases z)
    · have h := iteT hc h
      obtain rfl := Sum.inr.inj (Option.some.inj h)
      obtain ⟨sa, hsa⟩ := hC.2.2.2.2.2.1 ("BentGardens", 47, "a side is not 2 to 8") (by decide +kernel)
      refine vx_throwS hx hb hl9 hown (cls := "java/lang/IllegalArgumentException") (names := ["java/lang/RuntimeException", "java/lang/Exception"]) (by decide) (by decide) (hts _ qw389) (hts _ qw16) hsa (at_words hts hC.2.1 at_IllegalArgumentException) ato_IllegalArgumentException (hC.2.2.2.2.2.2.2.1.narrow hZ) (hC.2.2.2.2.2.2.2.2.1.narrow hZ) hS (hl.1.trans hml.symm) dX4_garden_14 dX4_garden_17 dX4_garden_18 dX4_garden_20 dX4_garden_23 (fun x9 hx9 => (hT x9 hx9).elim) (Nat.le_of_ble_eq_true rfl) (Nat.le_of_ble_eq_true rfl) (Nat.le_of_ble_eq_true rfl) (Nat.le_of_ble_eq_true rfl) hlocks (fun t9 _ h8 h9 => XM.mk hP hD hS h8 h9) hS.2.2 (Nat.le_of_ble_eq_true rfl) (Nat.le_of_ble_eq_true rfl)

abbrev rm_X4_pond : Room := { frames := 10, cells := 3, slots := 40, locals := 340 }
theorem ok_X4_pond : okY yX4_pond 2 := ⟨by decide +kernel, by decide +kernel, by decide +kernel⟩
set_option maxHeartbeats 4000000 in
set_option maxRecDepth 100000 in
theorem c_X4_pond (l : Launch) (z0 : Nat) (D : va_G) (t : Nat → ClassId) (x0 : Nat) (s0 : Nat) (s1 : Nat) (e0 : Nat) (E : Nat → Nat) (A : Nat → Nat) (B : Nat → Nat) (G : Nat → Nat) (T : va_W) (μ : XS) (a1 : Int32) (a2 : Int32) (res : Int32 × (Int32) × (Int32) × (Int32)) (sz : Nat) (L : List GS) (S0 S1 : Option GS) (hRep : Rep t e0 T L (x_sl μ) S0 S1) (hnL : x_lsize μ = nI L.length) (h : f_X4_pond μ a1 a2 = some (.inl res)) : Met l yX4_pond (ws_ yX4_pond cX4_pond 6 (some .int)) rm_X4_pond (PM z0 D t [.ref (x0), .int a1, .int a2] (XW x0 s0 s1 e0 E A B G T t μ) (XL x0 s0 s1 e0 E A B G T μ) sz) (QS (some (.int res.1)) D (fun e T => (XW x0 s0 s1 e E A B G T t (x_lsize' (x_lmod' (x_pond' μ res.2.1) res.2.2.1) res.2.2.2))) (fun e T => Rep t e T (svL L (gsX μ)) (x_sl μ) S0 S1) (XL x0 s0 s1 e0 E A B G T μ) sz) 3 40 (OA (XL x0 s0 s1 e0 E A B G T μ) sz) := by
  refine Met.ofW (cc := cX4_pond) (maxL := 6) (ret := (some .int)) (by decide) rfl ?_
  intro p e s m args below meth c s₁ Bo hml hv
  obtain ⟨rfl, hC, hsz, hP, hD, hZ⟩ := hv
  have hx := Bo.exec
  have hb := Bo.bytes
  have hr := Bo.returns
  have hts : ∀ w ∈ LA, w.before _ s = true := fun w hw => atoms_spec (ws := ws_ yX4_pond cX4_pond 6 (some .int)) Bo.pre w (List.mem_cons_of_mem _ hw)
  have hown : s.vm.findClass RX4 = some m.cls := findClass_of_methodNamed Bo.named
  have hlocks := Bo.notSynchronized
  have hK := hC.1
  subst hsz
  have hl := lv_entry ([.ref (x0), .int a1, .int a2]) (n := 6) (Nat.le_of_ble_eq_true rfl)
  rw [lg_entry_eq]
  generalize (lg_sl ([.ref (x0), .int a1, .int a2]) ++ List.replicate (6 - (lg_sl ([.ref (x0), .int a1, .int a2])).length) Slot.unset).toArray = ls at hl ⊢
  have hl : lv_has ls 6 [(0, .ref (x0)), (1, .int a1), (2, .int a2)] := hl
  suffices K9 : ∀ (H : Heap) (locs : List Loc), va_P D vwCl (XW x0 s0 s1 e0 E A B G T t μ) H → va_S (OA (XL x0 s0 s1 e0 E A B G T μ) s.heap.size) s.heap H locs → W p l e (headSpec (ws_ yX4_pond cX4_pond 6 (some .int)) rm_X4_pond).room s m ([.ref (x0), .int a1, .int a2] : List Value).toArray below meth c H locs 0 0 (MQ below (QS (some (.int res.1)) D (fun e T => (XW x0 s0 s1 e E A B G T t (x_lsize' (x_lmod' (x_pond' μ res.2.1) res.2.2.1) res.2.2.2))) (fun e T => Rep t e T (svL L (gsX μ)) (x_sl μ) S0 S1) (XL x0 s0 s1 e0 E A B G T μ) s.heap.size) ([.ref (x0), .int a1, .int a2] : List Value).toArray s 3 40 (OA (XL x0 s0 s1 e0 E A B G T μ) s.heap.size)) (F0 m 0 ls []) from K9 s.heap [] hP va_S.rf
  intro H locs hP hS
  have hSz : s.heap.size ≤ H.size := hS.1
  unfold f_X4_pond at h
  refine lv_aload_n hx hb dX4_pond_0 rfl (lv_at hl 0 rfl) ?_
  refine lv_iload_n hx hb dX4_pond_1 rfl (lv_at hl 1 rfl) ?_
  refine lv_iload_n hx hb dX4_pond_2 rfl (lv_at hl 2 rfl) ?_
  obtain ⟨r1o, er1, h⟩ := obind h
  rcases r1o with r1 | Er1
  · replace h := sumL h
    refine call_R (va_runV (As := [.int a1, .int a2]) (rest := []) ⟨hx, hb, hml, hown, hts⟩ (c_X4_requireCell l z0 D t x0 s0 s1 e0 E A B G T μ a1 a2 _ er1) (kV hts qw554 qw556 qs20 qw1 qw557 ok_X4_requireCell ⟨Nat.le_of_ble_eq_true rfl, Nat.le_of_ble_eq_true rfl⟩) ⟨PR.blind, va_recv hK hP (ci := 5) (q0 := 0) rfl rfl, fun U hU hW => ⟨rfl, by rw [hU]; exact (hC.at hS hZ).warm hW, by rw [hU]; exact hP⟩⟩ rfl rfl hl.1 rfl (lv_room (Nat.le_of_ble_eq_true rfl)) dX4_pond_3 ⟨Nat.le_of_ble_eq_true rfl, Nat.le_of_ble_eq_true rfl⟩) ?_
    refine lv_iload_n hx hb dX4_pond_6 rfl (lv_at hl 1 rfl) ?_
    refine lv_iload_n hx hb dX4_pond_7 rfl (lv_at hl 2 rfl) ?_
    obtain ⟨r2, er2, h⟩ := obind h
    refine call_R (va_runS (As := [.int a1, .int a2]) (rest := []) ⟨hx, hb, hml, hown, hts⟩ (c_X4_cellAt l z0 D t a1 a2 _ er2) (kS hts qw578 qw229 qw1 qw230 ok_X4_cellAt ⟨Nat.le_of_ble_eq_true rfl, Nat.le_of_ble_eq_true rfl⟩) ⟨PR.blind, fun U hU hW => ⟨rfl, by rw [hU]; exact (hC.at hS hZ).warm hW, by rw [hU]; exact va_P_nil⟩⟩ rfl rfl hl.1 rfl (lv_room (Nat.le_of_ble_eq_true rfl)) dX4_pond_8 ⟨Nat.le_of_ble_eq_true rfl, Nat.le_of_ble_eq_true rfl⟩) ?_
    refine lv_lstore_n (lv' := [(3, .long r2), (0, .ref (x0)), (1, .int a1), (2, .int a2)]) hx hb dX4_pond_11 rfl hl (by decide) rfl (fun ls hl => ?_)
    refine lv_lload_n hx hb dX4_pond_12 rfl (lv_at hl 0 rfl) ?_
    refine lv_aload_n hx hb dX4_pond_13 rfl (lv_at hl 1 rfl) ?_
    refine va_get hx hb hts inX4 hown hK hP 0 rfl rfl 4 (by decide) (hts _ qw159) (fun _ h9 => h9) rfl dX4_pond_14 ?_
    refine va_get hx hb hts inX1 hown hK hP 13 rfl rfl 3 (by decide) (hts _ qw126) (fun _ h9 => h9) rfl dX4_pond_17 ?_
    refine lv_aload_n hx hb dX4_pond_20 rfl (lv_at hl 1 rfl) ?_
    refine va_get hx hb hts inX4 hown hK hP 0 rfl rfl 4 (by decide) (hts _ qw159) (fun _ h9 => h9) rfl dX4_pond_21 ?_
    refine va_get hx hb hts inX1 hown hK hP 13 rfl rfl 4 (by decide) (hts _ qw128) (fun _ h9 => h9) rfl dX4_pond_24 ?_
    refine lv_lor hx hb dX4_pond_27 ?_
    refine lv_land hx hb dX4_pond_28 ?_
    refine lv_lconst (v := (0)) hx hb dX4_pond_29 (by decide) ?_
    refine W.lcmp hx hb dX4_pond_30 ?_
    refine lv_if_eq (tgt := 44) hx hb dX4_pond_31 (by decide) (fun hc => ?_) (fun hc => ?_)
    · have h := iteT hc h
      refine lv_aload_n hx hb dX4_pond_44 rfl (lv_at hl 1 rfl) ?_
      obtain ⟨r3, er3, h⟩ := obind h
      refine call_S (va_runV (As := []) (rest := []) ⟨hx, hb, hml, hown, hts⟩ (c_X4_saveState l z0 D t x0 s0 s1 e0 E A B G T μ L S0 S1 H.size hRep hnL) (kV hts qw457 qw459 qs15 qw1 qw460 ok_X4_saveState ⟨Nat.le_of_ble_eq_true rfl, Nat.le_of_ble_eq_true rfl⟩) ⟨PM.blind, va_recv hK hP (ci := 5) (q0 := 0) rfl rfl, fun U hU hW => ⟨rfl, by rw [hU]; exact (hC.at hS hZ).warm hW, by rw [hU], by rw [hU]; exact hP, ⟨hD.1, fun _ _ h9 => Or.inl (in_map (L := (XL x0 s0 s1 e0 E A B G T μ)) rfl h9)⟩, fun q hq => hZ q (OA.ofD hD rfl hSz q hq)⟩⟩ rfl rfl hl.1 rfl (lv_room (Nat.le_of_ble_eq_true rfl)) dX4_pond_45 ⟨Nat.le_of_ble_eq_true rfl, Nat.le_of_ble_eq_true rfl⟩) hS (OA.ofD hD rfl hSz) (fun e1 T1 H locs hRp hP hD1 hS _ _ => ?_)
      have hP : va_P D vwCl (XW x0 s0 s1 e1 E A B G T1 t (svX μ)) H := hP
      rw [svX_eq er3] at hP hD1
      have hP : va_P D vwCl (XW x0 s0 s1 e1 E A B G T1 t (x_lsize' (x_lmod' μ r3.1) r3.2)) H := hP
      have hD : va_D (OA (XL x0 s0 s1 e0 E A B G T μ) s.heap.size) (XW x0 s0 s1 e1 E A B G T1 t (x_lsize' (x_lmod' μ r3.1) r3.2)) := hD1.weaken (fun _ q _ h9 => OA.ofD hD rfl hSz q.1 h9)
      have hSz : s.heap.size ≤ H.size := hS.1
      refine W.widen (k := 3) (n := 40) (by omega) (by omega) ?_
      refine lv_aload_n hx hb dX4_pond_48 rfl (lv_at hl 1 rfl) ?_
      refine va_get hx hb hts inX4 hown hK hP 0 rfl rfl 4 (by decide) (hts _ qw159) (fun _ h9 => h9) rfl dX4_pond_49 ?_
      refine va_get hx hb hts inX1 hown hK hP 13 rfl rfl 2 (by decide) (hts _ qw124) (fun _ h9 => h9) rfl dX4_pond_52 ?_
      obtain ⟨x4, ex4, h⟩ := jlet_some h
      refine topI ex4 ?_
      refine lv_istore (lv' := [(5, .int x4), (3, .long r2), (0, .ref (x0)), (1, .int a1), (2, .int a2)]) hx hb dX4_pond_55 hl (by decide) rfl (fun ls hl => ?_)
      refine lv_aload_n hx hb dX4_pond_57 rfl (lv_at hl 2 rfl) ?_
      refine va_get hx hb hts inX4 hown hK hP 0 rfl rfl 4 (by decide) (hts _ qw159) (fun _ h9 => h9) rfl dX4_pond_58 ?_
      refine lv_iload_n hx hb dX4_pond_61 rfl (lv_at hl 3 rfl) ?_
      refine lv_iload_n hx hb dX4_pond_62 rfl (lv_at hl 4 rfl) ?_
      obtain ⟨r5, er5, h⟩ := obind h
      refine call_R (va_runS (As := [.int a1, .int a2]) (rest := [.ref (G 0)]) ⟨hx, hb, hml, hown, hts⟩ (c_X4_placeOf l z0 D t a1 a2 _ er5) (kS hts qw231 qw226 qw1 qw227 ok_X4_placeOf ⟨Nat.le_of_ble_eq_true rfl, Nat.le_of_ble_eq_true rfl⟩) ⟨PR.blind, fun U hU hW => ⟨rfl, by rw [hU]; exact (hC.at hS hZ).warm hW, by rw [hU]; exact va_P_nil⟩⟩ rfl rfl hl.1 rfl (lv_room (Nat.le_of_ble_eq_true rfl)) dX4_pond_63 ⟨Nat.le_of_ble_eq_true rfl, Nat.le_of_ble_eq_true rfl⟩) ?_
      refine va_put (D := D) (ci := 2) (v := .int r5) (ty := .int) hx hb hts inX1 tyX1 tyX1_ok nmX1 hown hK hP hD hS 13 rfl rfl 2 (by decide) (hts _ qw124) (fun _ h9 => h9) rfl (by decide +kernel) rfl rfl (Nat.le_of_ble_eq_true rfl) dX4_pond_66 (fun H locs hP hD hS => ?_)
      have hP : va_P D vwCl (XW x0 s0 s1 e1 E A B G T1 t (x_lsize' (x_lmod' (x_pond' μ r5) r3.1) r3.2)) H := hP
      have hD : va_D (OA (XL x0 s0 s1 e0 E A B G T μ) s.heap.size) (XW x0 s0 s1 e1 E A B G T1 t (x_lsize' (x_lmod' (x_pond' μ r5) r3.1) r3.2)) := hD
      have hSz : s.heap.size ≤ H.size := hS.1
      refine lv_iload hx hb dX4_pond_69 (lv_at hl 0 rfl) ?_
      obtain ⟨r6, er6, h⟩ := obind h
      refine call_R (va_runS (As := [.int x4]) (rest := []) ⟨hx, hb, hml, hown, hts⟩ (c_X4_cellName l z0 D t x4 _ er6) (kS hts qw370 qw371 qw1 qw372 ok_X4_cellName ⟨Nat.le_of_ble_eq_true rfl, Nat.le_of_ble_eq_true rfl⟩) ⟨PR.blind, fun U hU hW => ⟨rfl, by rw [hU]; exact (hC.at hS hZ).warm hW, by rw [hU]; exact va_P_nil⟩⟩ rfl rfl hl.1 rfl (lv_room (Nat.le_of_ble_eq_true rfl)) dX4_pond_71 ⟨Nat.le_of_ble_eq_true rfl, Nat.le_of_ble_eq_true rfl⟩) ?_
      obtain rfl := Sum.inl.inj (Option.some.inj h)
      exact W.iret hx hb hr (fun t ht hW => ⟨e1, T1, hRp, rfl, by rw [ht]; exact hP, hD, hS.F ht⟩) hS.2.2 dX4_pond_74
    · have h := iteF hc h
      exact absurd (Option.some.inj h) (fun z => by cases z)
  · replace h := sumR h
    exact absurd (Option.some.inj h) (fun z => by cases z)

abbrev rx_X4_pond : Room := { frames := 10, cells := 4, slots := 46, locals := 340 }
set_option maxHeartbeats 4000000 in
set_option maxRecDepth 100000 in
theorem x_X4_pond (l : Launch) (hl9 : l.stackTraces = false) (z0 : Nat) (D : va_G) (t : Nat → ClassId) (x0 : Nat) (s0 : Nat) (s1 : Nat) (e0 : Nat) (E : Nat → Nat) (A : Nat → Nat) (B : Nat → Nat) (G : Nat → Nat) (T : va_W) (μ : XS) (a1 : Int32) (a2 : Int32) (xE : String) (sz : Nat) (L : List GS) (S0 S1 : Option GS) (hRep : Rep t e0 T L (x_sl μ) S0 S1) (hnL : x_lsize μ = nI L.length) (h : f_X4_pond μ a1 a2 = some (.inr xE)) : vx_Met l yX4_pond (ws_ yX4_pond cX4_pond 6 (some .int)) rx_X4_pond (PM z0 D t [.ref (x0), .int a1, .int a2] (XW x0 s0 s1 e0 E A B G T t μ) (XL x0 s0 s1 e0 E A B G T μ) sz) (fun _ _ _ _ => False) (XM xE D (XW x0 s0 s1 e0 E A B G T t μ) (XL x0 s0 s1 e0 E A B G T μ) sz) 4 46 (OA (XL x0 s0 s1 e0 E A B G T μ) sz) := by
  refine vx_ofW (cc := cX4_pond) (maxL := 6) (ret := (some .int)) (by decide) rfl ?_
  intro p e s m args below meth c s₁ Bo hml hT hv
  obtain ⟨rfl, hC, hsz, hP, hD, hZ⟩ := hv
  have hx := Bo.exec
  have hb := Bo.bytes
  have hr := Bo.returns
  have hts : ∀ w ∈ LA, w.before _ s = true := fun w hw => atoms_spec (ws := ws_ yX4_pond cX4_pond 6 (some .int)) Bo.pre w (List.mem_cons_of_mem _ hw)
  have hown : s.vm.findClass RX4 = some m.cls := findClass_of_methodNamed Bo.named
  have hlocks := Bo.notSynchronized
  have hK := hC.1
  subst hsz
  have hl := lv_entry ([.ref (x0), .int a1, .int a2]) (n := 6) (Nat.le_of_ble_eq_true rfl)
  rw [lg_entry_eq]
  generalize (lg_sl ([.ref (x0), .int a1, .int a2]) ++ List.replicate (6 - (lg_sl ([.ref (x0), .int a1, .int a2])).length) Slot.unset).toArray = ls at hl ⊢
  have hl : lv_has ls 6 [(0, .ref (x0)), (1, .int a1), (2, .int a2)] := hl
  suffices K9 : ∀ (H : Heap) (locs : List Loc), va_P D vwCl (XW x0 s0 s1 e0 E A B G T t μ) H → va_S (OA (XL x0 s0 s1 e0 E A B G T μ) s.heap.size) s.heap H locs → W p l e (headSpec (ws_ yX4_pond cX4_pond 6 (some .int)) rx_X4_pond).room s m ([.ref (x0), .int a1, .int a2] : List Value).toArray below meth c H locs 0 0 (vx_MQ below (fun _ _ _ _ => False) (XM xE D (XW x0 s0 s1 e0 E A B G T t μ) (XL x0 s0 s1 e0 E A B G T μ) s.heap.size) ([.ref (x0), .int a1, .int a2] : List Value).toArray s 4 46 (OA (XL x0 s0 s1 e0 E A B G T μ) s.heap.size)) (F0 m 0 ls []) from K9 s.heap [] hP va_S.rf
  intro H locs hP hS
  have hSz : s.heap.size ≤ H.size := hS.1
  unfold f_X4_pond at h
  refine lv_aload_n hx hb dX4_pond_0 rfl (lv_at hl 0 rfl) ?_
  refine lv_iload_n hx hb dX4_pond_1 rfl (lv_at hl 1 rfl) ?_
  refine lv_iload_n hx hb dX4_pond_2 rfl (lv_at hl 2 rfl) ?_
  obtain ⟨r1o, er1, h⟩ := obind h
  rcases r1o with r1 | Er1
  · replace h := sumL h
    refine call_R (va_runV (As := [.int a1, .int a2]) (rest := []) ⟨hx, hb, hml, hown, hts⟩ (c_X4_requireCell l z0 D t x0 s0 s1 e0 E A B G T μ a1 a2 _ er1) (kV hts qw554 qw556 qs20 qw1 qw557 ok_X4_requireCell ⟨Nat.le_of_ble_eq_true rfl, Nat.le_of_ble_eq_true rfl⟩) ⟨PR.blind, va_recv hK hP (ci := 5) (q0 := 0) rfl rfl, fun U hU hW => ⟨rfl, by rw [hU]; exact (hC.at hS hZ).warm hW, by rw [hU]; exact hP⟩⟩ rfl rfl hl.1 rfl (lv_room (Nat.le_of_ble_eq_true rfl)) dX4_pond_3 ⟨Nat.le_of_ble_eq_true rfl, Nat.le_of_ble_eq_true rfl⟩) ?_
    refine lv_iload_n hx hb dX4_pond_6 rfl (lv_at hl 1 rfl) ?_
    refine lv_iload_n hx hb dX4_pond_7 rfl (lv_at hl 2 rfl) ?_
    obtain ⟨r2, er2, h⟩ := obind h
    refine call_R (va_runS (As := [.int a1, .int a2]) (rest := []) ⟨hx, hb, hml, hown, hts⟩ (c_X4_cellAt l z0 D t a1 a2 _ er2) (kS hts qw578 qw229 qw1 qw230 ok_X4_cellAt ⟨Nat.le_of_ble_eq_true rfl, Nat.le_of_ble_eq_true rfl⟩) ⟨PR.blind, fun U hU hW => ⟨rfl, by rw [hU]; exact (hC.at hS hZ).warm hW, by rw [hU]; exact va_P_nil⟩⟩ rfl rfl hl.1 rfl (lv_room (Nat.le_of_ble_eq_true rfl)) dX4_pond_8 ⟨Nat.le_of_ble_eq_true rfl, Nat.le_of_ble_eq_true rfl⟩) ?_
    refine lv_lstore_n (lv' := [(3, .long r2), (0, .ref (x0)), (1, .int a1), (2, .int a2)]) hx hb dX4_pond_11 rfl hl (by decide) rfl (fun ls hl => ?_)
    refine lv_lload_n hx hb dX4_pond_12 rfl (lv_at hl 0 rfl) ?_
    refine lv_aload_n hx hb dX4_pond_13 rfl (lv_at hl 1 rfl) ?_
    refine va_get hx hb hts inX4 hown hK hP 0 rfl rfl 4 (by decide) (hts _ qw159) (fun _ h9 => h9) rfl dX4_pond_14 ?_
    refine va_get hx hb hts inX1 hown hK hP 13 rfl rfl 3 (by decide) (hts _ qw126) (fun _ h9 => h9) rfl dX4_pond_17 ?_
    refine lv_aload_n hx hb dX4_pond_20 rfl (lv_at hl 1 rfl) ?_
    refine va_get hx hb hts inX4 hown hK hP 0 rfl rfl 4 (by decide) (hts _ qw159) (fun _ h9 => h9) rfl dX4_pond_21 ?_
    refine va_get hx hb hts inX1 hown hK hP 13 rfl rfl 4 (by decide) (hts _ qw128) (fun _ h9 => h9) rfl dX4_pond_24 ?_
    refine lv_lor hx hb dX4_pond_27 ?_
    refine lv_land hx hb dX4_pond_28 ?_
    refine lv_lconst (v := (0)) hx hb dX4_pond_29 (by decide) ?_
    refine W.lcmp hx hb dX4_pond_30 ?_
    refine lv_if_eq (tgt := 44) hx hb dX4_pond_31 (by decide) (fun hc => ?_) (fun hc => ?_)
    · have h := iteT hc h
      refine lv_aload_n hx hb dX4_pond_44 rfl (lv_at hl 1 rfl) ?_
      obtain ⟨r3, er3, h⟩ := obind h
      refine call_S (va_runV (As := []) (rest := []) ⟨hx, hb, hml, hown, hts⟩ (c_X4_saveState l z0 D t x0 s0 s1 e0 E A B G T μ L S0 S1 H.size hRep hnL) (kV hts qw457 qw459 qs15 qw1 qw460 ok_X4_saveState ⟨Nat.le_of_ble_eq_true rfl, Nat.le_of_ble_eq_true rfl⟩) ⟨PM.blind, va_recv hK hP (ci := 5) (q0 := 0) rfl rfl, fun U hU hW => ⟨rfl, by rw [hU]; exact (hC.at hS hZ).warm hW, by rw [hU], by rw [hU]; exact hP, ⟨hD.1, fun _ _ h9 => Or.inl (in_map (L := (XL x0 s0 s1 e0 E A B G T μ)) rfl h9)⟩, fun q hq => hZ q (OA.ofD hD rfl hSz q hq)⟩⟩ rfl rfl hl.1 rfl (lv_room (Nat.le_of_ble_eq_true rfl)) dX4_pond_45 ⟨Nat.le_of_ble_eq_true rfl, Nat.le_of_ble_eq_true rfl⟩) hS (OA.ofD hD rfl hSz) (fun e1 T1 H locs hRp hP hD1 hS _ _ => ?_)
      have hP : va_P D vwCl (XW x0 s0 s1 e1 E A B G T1 t (svX μ)) H := hP
      rw [svX_eq er3] at hP hD1
      have hP : va_P D vwCl (XW x0 s0 s1 e1 E A B G T1 t (x_lsize' (x_lmod' μ r3.1) r3.2)) H := hP
      have hD : va_D (OA (XL x0 s0 s1 e0 E A B G T μ) s.heap.size) (XW x0 s0 s1 e1 E A B G T1 t (x_lsize' (x_lmod' μ r3.1) r3.2)) := hD1.weaken (fun _ q _ h9 => OA.ofD hD rfl hSz q.1 h9)
      have hSz : s.heap.size ≤ H.size := hS.1
      refine W.widen (k := 3) (n := 40) (by omega) (by omega) ?_
      refine lv_aload_n hx hb dX4_pond_48 rfl (lv_at hl 1 rfl) ?_
      refine va_get hx hb hts inX4 hown hK hP 0 rfl rfl 4 (by decide) (hts _ qw159) (fun _ h9 => h9) rfl dX4_pond_49 ?_
      refine va_get hx hb hts inX1 hown hK hP 13 rfl rfl 2 (by decide) (hts _ qw124) (fun _ h9 => h9) rfl dX4_pond_52 ?_
      obtain ⟨x4, ex4, h⟩ := jlet_some h
      refine topI ex4 ?_
      refine lv_istore (lv' := [(5, .int x4), (3, .long r2), (0, .ref (x0)), (1, .int a1), (2, .int a2)]) hx hb dX4_pond_55 hl (by decide) rfl (fun ls hl => ?_)
      refine lv_aload_n hx hb dX4_pond_57 rfl (lv_at hl 2 rfl) ?_
      refine va_get hx hb hts inX4 hown hK hP 0 rfl rfl 4 (by decide) (hts _ qw159) (fun _ h9 => h9) rfl dX4_pond_58 ?_
      refine lv_iload_n hx hb dX4_pond_61 rfl (lv_at hl 3 rfl) ?_
      refine lv_iload_n hx hb dX4_pond_62 rfl (lv_at hl 4 rfl) ?_
      obtain ⟨r5, er5, h⟩ := obind h
      refine call_R (va_runS (As := [.int a1, .int a2]) (rest := [.ref (G 0)]) ⟨hx, hb, hml, hown, hts⟩ (c_X4_placeOf l z0 D t a1 a2 _ er5) (kS hts qw231 qw226 qw1 qw227 ok_X4_placeOf ⟨Nat.le_of_ble_eq_true rfl, Nat.le_of_ble_eq_true rfl⟩) ⟨PR.blind, fun U hU hW => ⟨rfl, by rw [hU]; exact (hC.at hS hZ).warm hW, by rw [hU]; exact va_P_nil⟩⟩ rfl rfl hl.1 rfl (lv_room (Nat.le_of_ble_eq_true rfl)) dX4_pond_63 ⟨Nat.le_of_ble_eq_true rfl, Nat.le_of_ble_eq_true rfl⟩) ?_
      refine va_put (D := D) (ci := 2) (v := .int r5) (ty := .int) hx hb hts inX1 tyX1 tyX1_ok nmX1 hown hK hP hD hS 13 rfl rfl 2 (by decide) (hts _ qw124) (fun _ h9 => h9) rfl (by decide +kernel) rfl rfl (Nat.le_of_ble_eq_true rfl) dX4_pond_66 (fun H locs hP hD hS => ?_)
      have hP : va_P D vwCl (XW x0 s0 s1 e1 E A B G T1 t (x_lsize' (x_lmod' (x_pond' μ r5) r3.1) r3.2)) H := hP
      have hD : va_D (OA (XL x0 s0 s1 e0 E A B G T μ) s.heap.size) (XW x0 s0 s1 e1 E A B G T1 t (x_lsize' (x_lmod' (x_pond' μ r5) r3.1) r3.2)) := hD
      have hSz : s.heap.size ≤ H.size := hS.1
      refine lv_iload hx hb dX4_pond_69 (lv_at hl 0 rfl) ?_
      obtain ⟨r6, er6, h⟩ := obind h
      refine call_R (va_runS (As := [.int x4]) (rest := []) ⟨hx, hb, hml, hown, hts⟩ (c_X4_cellName l z0 D t x4 _ er6) (kS hts qw370 qw371 qw1 qw372 ok_X4_cellName ⟨Nat.le_of_ble_eq_true rfl, Nat.le_of_ble_eq_true rfl⟩) ⟨PR.blind, fun U hU hW => ⟨rfl, by rw [hU]; exact (hC.at hS hZ).warm hW, by rw [hU]; exact va_P_nil⟩⟩ rfl rfl hl.1 rfl (lv_room (Nat.le_of_ble_eq_true rfl)) dX4_pond_71 ⟨Nat.le_of_ble_eq_true rfl, Nat.le_of_ble_eq_true rfl⟩) ?_
      exact absurd (Option.some.inj h) (fun z => by cases z)
    · have h := iteF hc h
      obtain rfl := Sum.inr.inj (Option.some.inj h)
      obtain ⟨sa, hsa⟩ := hC.2.2.2.2.2.1 ("BentGardens", 76, "the cell is walled or paved") (by decide +kernel)
      refine vx_throwS hx hb hl9 hown (cls := "java/lang/IllegalStateException") (names := ["java/lang/RuntimeException", "java/lang/Exception"]) (by decide) (by decide) (hts _ qw579) (hts _ qw12) hsa (at_words hts hC.2.1 at_IllegalStateException) ato_IllegalStateException (hC.2.2.2.2.2.2.2.1.narrow hZ) (hC.2.2.2.2.2.2.2.2.1.narrow hZ) hS (hl.1.trans hml.symm) dX4_pond_34 dX4_pond_37 dX4_pond_38 dX4_pond_40 dX4_pond_43 (fun x9 hx9 => (hT x9 hx9).elim) (Nat.le_of_ble_eq_true rfl) (Nat.le_of_ble_eq_true rfl) (Nat.le_of_ble_eq_true rfl) (Nat.le_of_ble_eq_true rfl) hlocks (fun t9 _ h8 h9 => XM.mk hP hD hS h8 h9) hS.2.2 (Nat.le_of_ble_eq_true rfl) (Nat.le_of_ble_eq_true rfl)
  · replace h := sumR h
    obtain rfl := Sum.inr.inj (Option.some.inj h)
    refine call_X (vx_runV (As := [.int a1, .int a2]) (rest := []) ⟨hx, hb, hml, hown, hts⟩ (x_X4_requireCell l hl9 z0 D t x0 s0 s1 e0 E A B G T μ a1 a2 _ H.size er1) (kV hts qw554 qw556 qs20 qw1 qw557 ok_X4_requireCell ⟨Nat.le_of_ble_eq_true rfl, Nat.le_of_ble_eq_true rfl⟩) ⟨PM.blind, va_recv hK hP (ci := 5) (q0 := 0) rfl rfl, fun U hU hW => ⟨rfl, by rw [hU]; exact (hC.at hS hZ).warm hW, by rw [hU], by rw [hU]; exact hP, ⟨hD.1, fun _ _ h9 => Or.inl (in_map (L := (XL x0 s0 s1 e0 E A B G T μ)) rfl h9)⟩, fun q hq => hZ q (OA.ofD hD rfl hSz q hq)⟩⟩ rfl rfl hl.1 rfl (lv_room (Nat.le_of_ble_eq_true rfl)) dX4_pond_3 ⟨Nat.le_of_ble_eq_true rfl, Nat.le_of_ble_eq_true rfl⟩) hS (OA.ofD hD rfl hSz) (fun H locs q9 ce9 hP1 hD1 hS hsz1 hk1 hce hcv hcc => ?_)
    have hP : va_P D vwCl (XW x0 s0 s1 e0 E A B G T t μ) H := hP1
    have hD : va_D (OA (XL x0 s0 s1 e0 E A B G T μ) s.heap.size) (XW x0 s0 s1 e0 E A B G T t μ) := hD1.weaken (fun _ q _ h9 => OA.ofD hD rfl hSz q.1 h9)
    exact vx_out (fun x9 hx9 => (hT x9 hx9).elim) hlocks hce hcv hcc (fun t9 h8 _ => XM.mk2 hP hD hS h8) hS.2.2 (Nat.le_of_ble_eq_true rfl) (Nat.le_of_ble_eq_true rfl)

abbrev rm_X4_wall : Room := { frames := 10, cells := 3, slots := 40, locals := 340 }
theorem ok_X4_wall : okY yX4_wall 2 := ⟨by decide +kernel, by decide +kernel, by decide +kernel⟩
set_option maxHeartbeats 4000000 in
set_option maxRecDepth 100000 in
theorem c_X4_wall (l : Launch) (z0 : Nat) (D : va_G) (t : Nat → ClassId) (x0 : Nat) (s0 : Nat) (s1 : Nat) (e0 : Nat) (E : Nat → Nat) (A : Nat → Nat) (B : Nat → Nat) (G : Nat → Nat) (T : va_W) (μ : XS) (a1 : Int32) (a2 : Int32) (res : Int32 × (Int64) × (Int32) × (Int32)) (sz : Nat) (L : List GS) (S0 S1 : Option GS) (hRep : Rep t e0 T L (x_sl μ) S0 S1) (hnL : x_lsize μ = nI L.length) (h : f_X4_wall μ a1 a2 = some (.inl res)) : Met l yX4_wall (ws_ yX4_wall cX4_wall 5 (some .int)) rm_X4_wall (PM z0 D t [.ref (x0), .int a1, .int a2] (XW x0 s0 s1 e0 E A B G T t μ) (XL x0 s0 s1 e0 E A B G T μ) sz) (QS (some (.int res.1)) D (fun e T => (XW x0 s0 s1 e E A B G T t (x_lsize' (x_lmod' (x_walls' μ res.2.1) res.2.2.1) res.2.2.2))) (fun e T => Rep t e T (svL L (gsX μ)) (x_sl μ) S0 S1) (XL x0 s0 s1 e0 E A B G T μ) sz) 3 40 (OA (XL x0 s0 s1 e0 E A B G T μ) sz) := by
  refine Met.ofW (cc := cX4_wall) (maxL := 5) (ret := (some .int)) (by decide) rfl ?_
  intro p e s m args below meth c s₁ Bo hml hv
  obtain ⟨rfl, hC, hsz, hP, hD, hZ⟩ := hv
  have hx := Bo.exec
  have hb := Bo.bytes
  have hr := Bo.returns
  have hts : ∀ w ∈ LA, w.before _ s = true := fun w hw => atoms_spec (ws := ws_ yX4_wall cX4_wall 5 (some .int)) Bo.pre w (List.mem_cons_of_mem _ hw)
  have hown : s.vm.findClass RX4 = some m.cls := findClass_of_methodNamed Bo.named
  have hlocks := Bo.notSynchronized
  have hK := hC.1
  subst hsz
  have hl := lv_entry ([.ref (x0), .int a1, .int a2]) (n := 5) (Nat.le_of_ble_eq_true rfl)
  rw [lg_entry_eq]
  generalize (lg_sl ([.ref (x0), .int a1, .int a2]) ++ List.replicate (5 - (lg_sl ([.ref (x0), .int a1, .int a2])).length) Slot.unset).toArray = ls at hl ⊢
  have hl : lv_has ls 5 [(0, .ref (x0)), (1, .int a1), (2, .int a2)] := hl
  suffices K9 : ∀ (H : Heap) (locs : List Loc), va_P D vwCl (XW x0 s0 s1 e0 E A B G T t μ) H → va_S (OA (XL x0 s0 s1 e0 E A B G T μ) s.heap.size) s.heap H locs → W p l e (headSpec (ws_ yX4_wall cX4_wall 5 (some .int)) rm_X4_wall).room s m ([.ref (x0), .int a1, .int a2] : List Value).toArray below meth c H locs 0 0 (MQ below (QS (some (.int res.1)) D (fun e T => (XW x0 s0 s1 e E A B G T t (x_lsize' (x_lmod' (x_walls' μ res.2.1) res.2.2.1) res.2.2.2))) (fun e T => Rep t e T (svL L (gsX μ)) (x_sl μ) S0 S1) (XL x0 s0 s1 e0 E A B G T μ) s.heap.size) ([.ref (x0), .int a1, .int a2] : List Value).toArray s 3 40 (OA (XL x0 s0 s1 e0 E A B G T μ) s.heap.size)) (F0 m 0 ls []) from K9 s.heap [] hP va_S.rf
  intro H locs hP hS
  have hSz : s.heap.size ≤ H.size := hS.1
  unfold f_X4_wall at h
  refine lv_aload_n hx hb dX4_wall_0 rfl (lv_at hl 0 rfl) ?_
  refine lv_iload_n hx hb dX4_wall_1 rfl (lv_at hl 1 rfl) ?_
  refine lv_iload_n hx hb dX4_wall_2 rfl (lv_at hl 2 rfl) ?_
  obtain ⟨r1o, er1, h⟩ := obind h
  rcases r1o with r1 | Er1
  · replace h := sumL h
    refine call_R (va_runV (As := [.int a1, .int a2]) (rest := []) ⟨hx, hb, hml, hown, hts⟩ (c_X4_requireCell l z0 D t x0 s0 s1 e0 E A B G T μ a1 a2 _ er1) (kV hts qw554 qw556 qs20 qw1 qw557 ok_X4_requireCell ⟨Nat.le_of_ble_eq_true rfl, Nat.le_of_ble_eq_true rfl⟩) ⟨PR.blind, va_recv hK hP (ci := 5) (q0 := 0) rfl rfl, fun U hU hW => ⟨rfl, by rw [hU]; exact (hC.at hS hZ).warm hW, by rw [hU]; exact hP⟩⟩ rfl rfl hl.1 rfl (lv_room (Nat.le_of_ble_eq_true rfl)) dX4_wall_3 ⟨Nat.le_of_ble_eq_true rfl, Nat.le_of_ble_eq_true rfl⟩) ?_
    refine lv_iload_n hx hb dX4_wall_6 rfl (lv_at hl 1 rfl) ?_
    refine lv_iload_n hx hb dX4_wall_7 rfl (lv_at hl 2 rfl) ?_
    obtain ⟨r2, er2, h⟩ := obind h
    refine call_R (va_runS (As := [.int a1, .int a2]) (rest := []) ⟨hx, hb, hml, hown, hts⟩ (c_X4_cellAt l z0 D t a1 a2 _ er2) (kS hts qw578 qw229 qw1 qw230 ok_X4_cellAt ⟨Nat.le_of_ble_eq_true rfl, Nat.le_of_ble_eq_true rfl⟩) ⟨PR.blind, fun U hU hW => ⟨rfl, by rw [hU]; exact (hC.at hS hZ).warm hW, by rw [hU]; exact va_P_nil⟩⟩ rfl rfl hl.1 rfl (lv_room (Nat.le_of_ble_eq_true rfl)) dX4_wall_8 ⟨Nat.le_of_ble_eq_true rfl, Nat.le_of_ble_eq_true rfl⟩) ?_
    refine lv_lstore_n (lv' := [(3, .long r2), (0, .ref (x0)), (1, .int a1), (2, .int a2)]) hx hb dX4_wall_11 rfl hl (by decide) rfl (fun ls hl => ?_)
    refine lv_lload_n hx hb dX4_wall_12 rfl (lv_at hl 0 rfl) ?_
    refine lv_aload_n hx hb dX4_wall_13 rfl (lv_at hl 1 rfl) ?_
    refine va_get hx hb hts inX4 hown hK hP 0 rfl rfl 4 (by decide) (hts _ qw159) (fun _ h9 => h9) rfl dX4_wall_14 ?_
    obtain ⟨r3, er3, h⟩ := obind h
    refine call_R (va_runV (As := []) (rest := [.long r2]) ⟨hx, hb, hml, hown, hts⟩ (c_X1_pondCell l z0 D t G ((x_wide μ), (x_high μ), (x_pond μ), (x_walls μ), (x_paved μ), (x_tc μ), (x_flips μ), (x_refused μ), (x_names μ)) _ er3) (kV hts qw332 qw245 qw246 qw8 qw247 ok_X1_pondCell ⟨Nat.le_of_ble_eq_true rfl, Nat.le_of_ble_eq_true rfl⟩) ⟨PR.blind, va_recv hK (sub_X_G (μ := μ) hP) (ci := 2) (q0 := 0) rfl rfl, fun U hU hW => ⟨rfl, by rw [hU]; exact (hC.at hS hZ).warm hW, by rw [hU]; exact (sub_X_G (μ := μ) hP)⟩⟩ rfl rfl hl.1 rfl (lv_room (Nat.le_of_ble_eq_true rfl)) dX4_wall_17 ⟨Nat.le_of_ble_eq_true rfl, Nat.le_of_ble_eq_true rfl⟩) ?_
    refine lv_aload_n hx hb dX4_wall_20 rfl (lv_at hl 1 rfl) ?_
    refine va_get hx hb hts inX4 hown hK hP 0 rfl rfl 4 (by decide) (hts _ qw159) (fun _ h9 => h9) rfl dX4_wall_21 ?_
    refine va_get hx hb hts inX1 hown hK hP 13 rfl rfl 4 (by decide) (hts _ qw128) (fun _ h9 => h9) rfl dX4_wall_24 ?_
    refine lv_lor hx hb dX4_wall_27 ?_
    refine lv_land hx hb dX4_wall_28 ?_
    refine lv_lconst (v := (0)) hx hb dX4_wall_29 (by decide) ?_
    refine W.lcmp hx hb dX4_wall_30 ?_
    refine lv_if_eq (tgt := 44) hx hb dX4_wall_31 (by decide) (fun hc => ?_) (fun hc => ?_)
    · have h := iteT hc h
      refine lv_aload_n hx hb dX4_wall_44 rfl (lv_at hl 1 rfl) ?_
      obtain ⟨r4, er4, h⟩ := obind h
      refine call_S (va_runV (As := []) (rest := []) ⟨hx, hb, hml, hown, hts⟩ (c_X4_saveState l z0 D t x0 s0 s1 e0 E A B G T μ L S0 S1 H.size hRep hnL) (kV hts qw457 qw459 qs15 qw1 qw460 ok_X4_saveState ⟨Nat.le_of_ble_eq_true rfl, Nat.le_of_ble_eq_true rfl⟩) ⟨PM.blind, va_recv hK hP (ci := 5) (q0 := 0) rfl rfl, fun U hU hW => ⟨rfl, by rw [hU]; exact (hC.at hS hZ).warm hW, by rw [hU], by rw [hU]; exact hP, ⟨hD.1, fun _ _ h9 => Or.inl (in_map (L := (XL x0 s0 s1 e0 E A B G T μ)) rfl h9)⟩, fun q hq => hZ q (OA.ofD hD rfl hSz q hq)⟩⟩ rfl rfl hl.1 rfl (lv_room (Nat.le_of_ble_eq_true rfl)) dX4_wall_45 ⟨Nat.le_of_ble_eq_true rfl, Nat.le_of_ble_eq_true rfl⟩) hS (OA.ofD hD rfl hSz) (fun e1 T1 H locs hRp hP hD1 hS _ _ => ?_)
      have hP : va_P D vwCl (XW x0 s0 s1 e1 E A B G T1 t (svX μ)) H := hP
      rw [svX_eq er4] at hP hD1
      have hP : va_P D vwCl (XW x0 s0 s1 e1 E A B G T1 t (x_lsize' (x_lmod' μ r4.1) r4.2)) H := hP
      have hD : va_D (OA (XL x0 s0 s1 e0 E A B G T μ) s.heap.size) (XW x0 s0 s1 e1 E A B G T1 t (x_lsize' (x_lmod' μ r4.1) r4.2)) := hD1.weaken (fun _ q _ h9 => OA.ofD hD rfl hSz q.1 h9)
      have hSz : s.heap.size ≤ H.size := hS.1
      refine W.widen (k := 3) (n := 40) (by omega) (by omega) ?_
      refine lv_aload_n hx hb dX4_wall_48 rfl (lv_at hl 1 rfl) ?_
      refine va_get hx hb hts inX4 hown hK hP 0 rfl rfl 4 (by decide) (hts _ qw159) (fun _ h9 => h9) rfl dX4_wall_49 ?_
      refine lv_dup hx hb dX4_wall_52 rfl ?_
      refine va_get hx hb hts inX1 hown hK hP 13 rfl rfl 3 (by decide) (hts _ qw126) (fun _ h9 => h9) rfl dX4_wall_53 ?_
      refine lv_lload_n hx hb dX4_wall_56 rfl (lv_at hl 0 rfl) ?_
      refine lv_lxor hx hb dX4_wall_57 ?_
      obtain ⟨x5, ex5, h⟩ := jlet_some h
      refine topJ ex5 ?_
      refine va_put (D := D) (ci := 2) (v := .long x5) (ty := .long) hx hb hts inX1 tyX1 tyX1_ok nmX1 hown hK hP hD hS 13 rfl rfl 3 (by decide) (hts _ qw126) (fun _ h9 => h9) rfl (by decide +kernel) rfl rfl (Nat.le_of_ble_eq_true rfl) dX4_wall_58 (fun H locs hP hD hS => ?_)
      have hP : va_P D vwCl (XW x0 s0 s1 e1 E A B G T1 t (x_lsize' (x_lmod' (x_walls' μ x5) r4.1) r4.2)) H := hP
      have hD : va_D (OA (XL x0 s0 s1 e0 E A B G T μ) s.heap.size) (XW x0 s0 s1 e1 E A B G T1 t (x_lsize' (x_lmod' (x_walls' μ x5) r4.1) r4.2)) := hD
      have hSz : s.heap.size ≤ H.size := hS.1
      refine lv_aload_n hx hb dX4_wall_61 rfl (lv_at hl 1 rfl) ?_
      refine va_get hx hb hts inX4 hown hK hP 0 rfl rfl 4 (by decide) (hts _ qw159) (fun _ h9 => h9) rfl dX4_wall_62 ?_
      refine va_get hx hb hts inX1 hown hK hP 13 rfl rfl 3 (by decide) (hts _ qw126) (fun _ h9 => h9) rfl dX4_wall_65 ?_
      obtain ⟨r6, er6, h⟩ := obind h
      refine call_R (va_runS (As := [.long x5]) (rest := []) ⟨hx, hb, hml, hown, hts⟩ (c_J13_bitCount_95d88 l z0 D t x5 _ er6) (kS hts qw604 qw254 qw22 qw255 ok_J13_bitCount_95d88 ⟨Nat.le_of_ble_eq_true rfl, Nat.le_of_ble_eq_true rfl⟩) ⟨PR.blind, fun U hU hW => ⟨rfl, by rw [hU]; exact (hC.at hS hZ).warm hW, by rw [hU]; exact va_P_nil⟩⟩ rfl rfl hl.1 rfl (lv_room (Nat.le_of_ble_eq_true rfl)) dX4_wall_68 ⟨Nat.le_of_ble_eq_true rfl, Nat.le_of_ble_eq_true rfl⟩) ?_
      obtain rfl := Sum.inl.inj (Option.some.inj h)
      exact W.iret hx hb hr (fun t ht hW => ⟨e1, T1, hRp, rfl, by rw [ht]; exact hP, hD, hS.F ht⟩) hS.2.2 dX4_wall_71
    · have h := iteF hc h
      exact absurd (Option.some.inj h) (fun z => by cases z)
  · replace h := sumR h
    exact absurd (Option.some.inj h) (fun z => by cases z)

abbrev rx_X4_wall : Room := { frames := 10, cells := 4, slots := 46, locals := 340 }
set_option maxHeartbeats 4000000 in
set_option maxRecDepth 100000 in
theorem x_X4_wall (l : Launch) (hl9 : l.stackTraces = false) (z0 : Nat) (D : va_G) (t : Nat → ClassId) (x0 : Nat) (s0 : Nat) (s1 : Nat) (e0 : Nat) (E : Nat → Nat) (A : Nat → Nat) (B : Nat → Nat) (G : Nat → Nat) (T : va_W) (μ : XS) (a1 : Int32) (a2 : Int32) (xE : String) (sz : Nat) (L : List GS) (S0 S1 : Option GS) (hRep : Rep t e0 T L (x_sl μ) S0 S1) (hnL : x_lsize μ = nI L.length) (h : f_X4_wall μ a1 a2 = some (.inr xE)) : vx_Met l yX4_wall (ws_ yX4_wall cX4_wall 5 (some .int)) rx_X4_wall (PM z0 D t [.ref (x0), .int a1, .int a2] (XW x0 s0 s1 e0 E A B G T t μ) (XL x0 s0 s1 e0 E A B G T μ) sz) (fun _ _ _ _ => False) (XM xE D (XW x0 s0 s1 e0 E A B G T t μ) (XL x0 s0 s1 e0 E A B G T μ) sz) 4 46 (OA (XL x0 s0 s1 e0 E A B G T μ) sz) := by
  refine vx_ofW (cc := cX4_wall) (maxL := 5) (ret := (some .int)) (by decide) rfl ?_
  intro p e s m args below meth c s₁ Bo hml hT hv
  obtain ⟨rfl, hC, hsz, hP, hD, hZ⟩ := hv
  have hx := Bo.exec
  have hb := Bo.bytes
  have hr := Bo.returns
  have hts : ∀ w ∈ LA, w.before _ s = true := fun w hw => atoms_spec (ws := ws_ yX4_wall cX4_wall 5 (some .int)) Bo.pre w (List.mem_cons_of_mem _ hw)
  have hown : s.vm.findClass RX4 = some m.cls := findClass_of_methodNamed Bo.named
  have hlocks := Bo.notSynchronized
  have hK := hC.1
  subst hsz
  have hl := lv_entry ([.ref (x0), .int a1, .int a2]) (n := 5) (Nat.le_of_ble_eq_true rfl)
  rw [lg_entry_eq]
  generalize (lg_sl ([.ref (x0), .int a1, .int a2]) ++ List.replicate (5 - (lg_sl ([.ref (x0), .int a1, .int a2])).length) Slot.unset).toArray = ls at hl ⊢
  have hl : lv_has ls 5 [(0, .ref (x0)), (1, .int a1), (2, .int a2)] := hl
  suffices K9 : ∀ (H : Heap) (locs : List Loc), va_P D vwCl (XW x0 s0 s1 e0 E A B G T t μ) H → va_S (OA (XL x0 s0 s1 e0 E A B G T μ) s.heap.size) s.heap H locs → W p l e (headSpec (ws_ yX4_wall cX4_wall 5 (some .int)) rx_X4_wall).room s m ([.ref (x0), .int a1, .int a2] : List Value).toArray below meth c H locs 0 0 (vx_MQ below (fun _ _ _ _ => False) (XM xE D (XW x0 s0 s1 e0 E A B G T t μ) (XL x0 s0 s1 e0 E A B G T μ) s.heap.size) ([.ref (x0), .int a1, .int a2] : List Value).toArray s 4 46 (OA (XL x0 s0 s1 e0 E A B G T μ) s.heap.size)) (F0 m 0 ls []) from K9 s.heap [] hP va_S.rf
  intro H locs hP hS
  have hSz : s.heap.size ≤ H.size := hS.1
  unfold f_X4_wall at h
  refine lv_aload_n hx hb dX4_wall_0 rfl (lv_at hl 0 rfl) ?_
  refine lv_iload_n hx hb dX4_wall_1 rfl (lv_at hl 1 rfl) ?_
  refine lv_iload_n hx hb dX4_wall_2 rfl (lv_at hl 2 rfl) ?_
  obtain ⟨r1o, er1, h⟩ := obind h
  rcases r1o with r1 | Er1
  · replace h := sumL h
    refine call_R (va_runV (As := [.int a1, .int a2]) (rest := []) ⟨hx, hb, hml, hown, hts⟩ (c_X4_requireCell l z0 D t x0 s0 s1 e0 E A B G T μ a1 a2 _ er1) (kV hts qw554 qw556 qs20 qw1 qw557 ok_X4_requireCell ⟨Nat.le_of_ble_eq_true rfl, Nat.le_of_ble_eq_true rfl⟩) ⟨PR.blind, va_recv hK hP (ci := 5) (q0 := 0) rfl rfl, fun U hU hW => ⟨rfl, by rw [hU]; exact (hC.at hS hZ).warm hW, by rw [hU]; exact hP⟩⟩ rfl rfl hl.1 rfl (lv_room (Nat.le_of_ble_eq_true rfl)) dX4_wall_3 ⟨Nat.le_of_ble_eq_true rfl, Nat.le_of_ble_eq_true rfl⟩) ?_
    refine lv_iload_n hx hb dX4_wall_6 rfl (lv_at hl 1 rfl) ?_
    refine lv_iload_n hx hb dX4_wall_7 rfl (lv_at hl 2 rfl) ?_
    obtain ⟨r2, er2, h⟩ := obind h
    refine call_R (va_runS (As := [.int a1, .int a2]) (rest := []) ⟨hx, hb, hml, hown, hts⟩ (c_X4_cellAt l z0 D t a1 a2 _ er2) (kS hts qw578 qw229 qw1 qw230 ok_X4_cellAt ⟨Nat.le_of_ble_eq_true rfl, Nat.le_of_ble_eq_true rfl⟩) ⟨PR.blind, fun U hU hW => ⟨rfl, by rw [hU]; exact (hC.at hS hZ).warm hW, by rw [hU]; exact va_P_nil⟩⟩ rfl rfl hl.1 rfl (lv_room (Nat.le_of_ble_eq_true rfl)) dX4_wall_8 ⟨Nat.le_of_ble_eq_true rfl, Nat.le_of_ble_eq_true rfl⟩) ?_
    refine lv_lstore_n (lv' := [(3, .long r2), (0, .ref (x0)), (1, .int a1), (2, .int a2)]) hx hb dX4_wall_11 rfl hl (by decide) rfl (fun ls hl => ?_)
    refine lv_lload_n hx hb dX4_wall_12 rfl (lv_at hl 0 rfl) ?_
    refine lv_aload_n hx hb dX4_wall_13 rfl (lv_at hl 1 rfl) ?_
    refine va_get hx hb hts inX4 hown hK hP 0 rfl rfl 4 (by decide) (hts _ qw159) (fun _ h9 => h9) rfl dX4_wall_14 ?_
    obtain ⟨r3, er3, h⟩ := obind h
    refine call_R (va_runV (As := []) (rest := [.long r2]) ⟨hx, hb, hml, hown, hts⟩ (c_X1_pondCell l z0 D t G ((x_wide μ), (x_high μ), (x_pond μ), (x_walls μ), (x_paved μ), (x_tc μ), (x_flips μ), (x_refused μ), (x_names μ)) _ er3) (kV hts qw332 qw245 qw246 qw8 qw247 ok_X1_pondCell ⟨Nat.le_of_ble_eq_true rfl, Nat.le_of_ble_eq_true rfl⟩) ⟨PR.blind, va_recv hK (sub_X_G (μ := μ) hP) (ci := 2) (q0 := 0) rfl rfl, fun U hU hW => ⟨rfl, by rw [hU]; exact (hC.at hS hZ).warm hW, by rw [hU]; exact (sub_X_G (μ := μ) hP)⟩⟩ rfl rfl hl.1 rfl (lv_room (Nat.le_of_ble_eq_true rfl)) dX4_wall_17 ⟨Nat.le_of_ble_eq_true rfl, Nat.le_of_ble_eq_true rfl⟩) ?_
    refine lv_aload_n hx hb dX4_wall_20 rfl (lv_at hl 1 rfl) ?_
    refine va_get hx hb hts inX4 hown hK hP 0 rfl rfl 4 (by decide) (hts _ qw159) (fun _ h9 => h9) rfl dX4_wall_21 ?_
    refine va_get hx hb hts inX1 hown hK hP 13 rfl rfl 4 (by decide) (hts _ qw128) (fun _ h9 => h9) rfl dX4_wall_24 ?_
    refine lv_lor hx hb dX4_wall_27 ?_
    refine lv_land hx hb dX4_wall_28 ?_
    refine lv_lconst (v := (0)) hx hb dX4_wall_29 (by decide) ?_
    refine W.lcmp hx hb dX4_wall_30 ?_
    refine lv_if_eq (tgt := 44) hx hb dX4_wall_31 (by decide) (fun hc => ?_) (fun hc => ?_)
    · have h := iteT hc h
      refine lv_aload_n hx hb dX4_wall_44 rfl (lv_at hl 1 rfl) ?_
      obtain ⟨r4, er4, h⟩ := obind h
      refine call_S (va_runV (As := []) (rest := []) ⟨hx, hb, hml, hown, hts⟩ (c_X4_saveState l z0 D t x0 s0 s1 e0 E A B G T μ L S0 S1 H.size hRep hnL) (kV hts qw457 qw459 qs15 qw1 qw460 ok_X4_saveState ⟨Nat.le_of_ble_eq_true rfl, Nat.le_of_ble_eq_true rfl⟩) ⟨PM.blind, va_recv hK hP (ci := 5) (q0 := 0) rfl rfl, fun U hU hW => ⟨rfl, by rw [hU]; exact (hC.at hS hZ).warm hW, by rw [hU], by rw [hU]; exact hP, ⟨hD.1, fun _ _ h9 => Or.inl (in_map (L := (XL x0 s0 s1 e0 E A B G T μ)) rfl h9)⟩, fun q hq => hZ q (OA.ofD hD rfl hSz q hq)⟩⟩ rfl rfl hl.1 rfl (lv_room (Nat.le_of_ble_eq_true rfl)) dX4_wall_45 ⟨Nat.le_of_ble_eq_true rfl, Nat.le_of_ble_eq_true rfl⟩) hS (OA.ofD hD rfl hSz) (fun e1 T1 H locs hRp hP hD1 hS _ _ => ?_)
      have hP : va_P D vwCl (XW x0 s0 s1 e1 E A B G T1 t (svX μ)) H := hP
      rw [svX_eq er4] at hP hD1
      have hP : va_P D vwCl (XW x0 s0 s1 e1 E A B G T1 t (x_lsize' (x_lmod' μ r4.1) r4.2)) H := hP
      have hD : va_D (OA (XL x0 s0 s1 e0 E A B G T μ) s.heap.size) (XW x0 s0 s1 e1 E A B G T1 t (x_lsize' (x_lmod' μ r4.1) r4.2)) := hD1.weaken (fun _ q _ h9 => OA.ofD hD rfl hSz q.1 h9)
      have hSz : s.heap.size ≤ H.size := hS.1
      refine W.widen (k := 3) (n := 40) (by omega) (by omega) ?_
      refine lv_aload_n hx hb dX4_wall_48 rfl (lv_at hl 1 rfl) ?_
      refine va_get hx hb hts inX4 hown hK hP 0 rfl rfl 4 (by decide) (hts _ qw159) (fun _ h9 => h9) rfl dX4_wall_49 ?_
      refine lv_dup hx hb dX4_wall_52 rfl ?_
      refine va_get hx hb hts inX1 hown hK hP 13 rfl rfl 3 (by decide) (hts _ qw126) (fun _ h9 => h9) rfl dX4_wall_53 ?_
      refine lv_lload_n hx hb dX4_wall_56 rfl (lv_at hl 0 rfl) ?_
      refine lv_lxor hx hb dX4_wall_57 ?_
      obtain ⟨x5, ex5, h⟩ := jlet_some h
      refine topJ ex5 ?_
      refine va_put (D := D) (ci := 2) (v := .long x5) (ty := .long) hx hb hts inX1 tyX1 tyX1_ok nmX1 hown hK hP hD hS 13 rfl rfl 3 (by decide) (hts _ qw126) (fun _ h9 => h9) rfl (by decide +kernel) rfl rfl (Nat.le_of_ble_eq_true rfl) dX4_wall_58 (fun H locs hP hD hS => ?_)
      have hP : va_P D vwCl (XW x0 s0 s1 e1 E A B G T1 t (x_lsize' (x_lmod' (x_walls' μ x5) r4.1) r4.2)) H := hP
      have hD : va_D (OA (XL x0 s0 s1 e0 E A B G T μ) s.heap.size) (XW x0 s0 s1 e1 E A B G T1 t (x_lsize' (x_lmod' (x_walls' μ x5) r4.1) r4.2)) := hD
      have hSz : s.heap.size ≤ H.size := hS.1
      refine lv_aload_n hx hb dX4_wall_61 rfl (lv_at hl 1 rfl) ?_
      refine va_get hx hb hts inX4 hown hK hP 0 rfl rfl 4 (by decide) (hts _ qw159) (fun _ h9 => h9) rfl dX4_wall_62 ?_
      refine va_get hx hb hts inX1 hown hK hP 13 rfl rfl 3 (by decide) (hts _ qw126) (fun _ h9 => h9) rfl dX4_wall_65 ?_
      obtain ⟨r6, er6, h⟩ := obind h
      refine call_R (va_runS (As := [.long x5]) (rest := []) ⟨hx, hb, hml, hown, hts⟩ (c_J13_bitCount_95d88 l z0 D t x5 _ er6) (kS hts qw604 qw254 qw22 qw255 ok_J13_bitCount_95d88 ⟨Nat.le_of_ble_eq_true rfl, Nat.le_of_ble_eq_true rfl⟩) ⟨PR.blind, fun U hU hW => ⟨rfl, by rw [hU]; exact (hC.at hS hZ).warm hW, by rw [hU]; exact va_P_nil⟩⟩ rfl rfl hl.1 rfl (lv_room (Nat.le_of_ble_eq_true rfl)) dX4_wall_68 ⟨Nat.le_of_ble_eq_true rfl, Nat.le_of_ble_eq_true rfl⟩) ?_
      exact absurd (Option.some.inj h) (fun z => by cases z)
    · have h := iteF hc h
      obtain rfl := Sum.inr.inj (Option.some.inj h)
      obtain ⟨sa, hsa⟩ := hC.2.2.2.2.2.1 ("BentGardens", 95, "the cell is the pond or paved") (by decide +kernel)
      refine vx_throwS hx hb hl9 hown (cls := "java/lang/IllegalStateException") (names := ["java/lang/RuntimeException", "java/lang/Exception"]) (by decide) (by decide) (hts _ qw579) (hts _ qw12) hsa (at_words hts hC.2.1 at_IllegalStateException) ato_IllegalStateException (hC.2.2.2.2.2.2.2.1.narrow hZ) (hC.2.2.2.2.2.2.2.2.1.narrow hZ) hS (hl.1.trans hml.symm) dX4_wall_34 dX4_wall_37 dX4_wall_38 dX4_wall_40 dX4_wall_43 (fun x9 hx9 => (hT x9 hx9).elim) (Nat.le_of_ble_eq_true rfl) (Nat.le_of_ble_eq_true rfl) (Nat.le_of_ble_eq_true rfl) (Nat.le_of_ble_eq_true rfl) hlocks (fun t9 _ h8 h9 => XM.mk hP hD hS h8 h9) hS.2.2 (Nat.le_of_ble_eq_true rfl) (Nat.le_of_ble_eq_true rfl)
  · replace h := sumR h
    obtain rfl := Sum.inr.inj (Option.some.inj h)
    refine call_X (vx_runV (As := [.int a1, .int a2]) (rest := []) ⟨hx, hb, hml, hown, hts⟩ (x_X4_requireCell l hl9 z0 D t x0 s0 s1 e0 E A B G T μ a1 a2 _ H.size er1) (kV hts qw554 qw556 qs20 qw1 qw557 ok_X4_requireCell ⟨Nat.le_of_ble_eq_true rfl, Nat.le_of_ble_eq_true rfl⟩) ⟨PM.blind, va_recv hK hP (ci := 5) (q0 := 0) rfl rfl, fun U hU hW => ⟨rfl, by rw [hU]; exact (hC.at hS hZ).warm hW, by rw [hU], by rw [hU]; exact hP, ⟨hD.1, fun _ _ h9 => Or.inl (in_map (L := (XL x0 s0 s1 e0 E A B G T μ)) rfl h9)⟩, fun q hq => hZ q (OA.ofD hD rfl hSz q hq)⟩⟩ rfl rfl hl.1 rfl (lv_room (Nat.le_of_ble_eq_true rfl)) dX4_wall_3 ⟨Nat.le_of_ble_eq_true rfl, Nat.le_of_ble_eq_true rfl⟩) hS (OA.ofD hD rfl hSz) (fun H locs q9 ce9 hP1 hD1 hS hsz1 hk1 hce hcv hcc => ?_)
    have hP : va_P D vwCl (XW x0 s0 s1 e0 E A B G T t μ) H := hP1
    have hD : va_D (OA (XL x0 s0 s1 e0 E A B G T μ) s.heap.size) (XW x0 s0 s1 e0 E A B G T t μ) := hD1.weaken (fun _ q _ h9 => OA.ofD hD rfl hSz q.1 h9)
    exact vx_out (fun x9 hx9 => (hT x9 hx9).elim) hlocks hce hcv hcc (fun t9 h8 _ => XM.mk2 hP hD hS h8) hS.2.2 (Nat.le_of_ble_eq_true rfl) (Nat.le_of_ble_eq_true rfl)

abbrev rm_X4_lay : Room := { frames := 10, cells := 3, slots := 40, locals := 340 }
theorem ok_X4_lay : okY yX4_lay 3 := ⟨by decide +kernel, by decide +kernel, by decide +kernel⟩
set_option maxHeartbeats 4000000 in
set_option maxRecDepth 100000 in
theorem c_X4_lay (l : Launch) (z0 : Nat) (D : va_G) (t : Nat → ClassId) (x0 : Nat) (s0 : Nat) (s1 : Nat) (e0 : Nat) (E : Nat → Nat) (A : Nat → Nat) (B : Nat → Nat) (G : Nat → Nat) (T : va_W) (μ : XS) (a1 : Int32) (a2 : Int32) (a3 : Int32) (res : Int32 × (Int64) × (Int32) × (Int32) × (Nat → Int32) × (Int32) × (Int32)) (sz : Nat) (L : List GS) (S0 S1 : Option GS) (hRep : Rep t e0 T L (x_sl μ) S0 S1) (hnL : x_lsize μ = nI L.length) (h : f_X4_lay μ a1 a2 a3 = some (.inl res)) : Met l yX4_lay (ws_ yX4_lay cX4_lay 5 (some .int)) rm_X4_lay (PM z0 D t [.ref (x0), .int a1, .int a2, .int a3] (XW x0 s0 s1 e0 E A B G T t μ) (XL x0 s0 s1 e0 E A B G T μ) sz) (QS (some (.int res.1)) D (fun e T => (XW x0 s0 s1 e E A B G T t (x_length μ, x_codes μ, x_rest μ, x_takes μ, x_u1 μ, x_u2 μ, x_hsz μ, x_hwin μ, x_hway μ, x_nsz μ, x_nwin μ, x_nway μ, x_wide μ, x_high μ, x_pond μ, x_walls μ, res.2.1, res.2.2.1, x_flips μ, res.2.2.2.1, res.2.2.2.2.1, x_sl μ, res.2.2.2.2.2.1, res.2.2.2.2.2.2))) (fun e T => Rep t e T (svL L (gsX μ)) (x_sl μ) S0 S1) (XL x0 s0 s1 e0 E A B G T μ) sz) 3 40 (OA (XL x0 s0 s1 e0 E A B G T μ) sz) := by
  refine Met.ofW (cc := cX4_lay) (maxL := 5) (ret := (some .int)) (by decide) rfl ?_
  intro p e s m args below meth c s₁ Bo hml hv
  obtain ⟨rfl, hC, hsz, hP, hD, hZ⟩ := hv
  have hx := Bo.exec
  have hb := Bo.bytes
  have hr := Bo.returns
  have hts : ∀ w ∈ LA, w.before _ s = true := fun w hw => atoms_spec (ws := ws_ yX4_lay cX4_lay 5 (some .int)) Bo.pre w (List.mem_cons_of_mem _ hw)
  have hown : s.vm.findClass RX4 = some m.cls := findClass_of_methodNamed Bo.named
  have hlocks := Bo.notSynchronized
  have hK := hC.1
  subst hsz
  have hl := lv_entry ([.ref (x0), .int a1, .int a2, .int a3]) (n := 5) (Nat.le_of_ble_eq_true rfl)
  rw [lg_entry_eq]
  generalize (lg_sl ([.ref (x0), .int a1, .int a2, .int a3]) ++ List.replicate (5 - (lg_sl ([.ref (x0), .int a1, .int a2, .int a3])).length) Slot.unset).toArray = ls at hl ⊢
  have hl : lv_has ls 5 [(0, .ref (x0)), (1, .int a1), (2, .int a2), (3, .int a3)] := hl
  suffices K9 : ∀ (H : Heap) (locs : List Loc), va_P D vwCl (XW x0 s0 s1 e0 E A B G T t μ) H → va_S (OA (XL x0 s0 s1 e0 E A B G T μ) s.heap.size) s.heap H locs → W p l e (headSpec (ws_ yX4_lay cX4_lay 5 (some .int)) rm_X4_lay).room s m ([.ref (x0), .int a1, .int a2, .int a3] : List Value).toArray below meth c H locs 0 0 (MQ below (QS (some (.int res.1)) D (fun e T => (XW x0 s0 s1 e E A B G T t (x_length μ, x_codes μ, x_rest μ, x_takes μ, x_u1 μ, x_u2 μ, x_hsz μ, x_hwin μ, x_hway μ, x_nsz μ, x_nwin μ, x_nway μ, x_wide μ, x_high μ, x_pond μ, x_walls μ, res.2.1, res.2.2.1, x_flips μ, res.2.2.2.1, res.2.2.2.2.1, x_sl μ, res.2.2.2.2.2.1, res.2.2.2.2.2.2))) (fun e T => Rep t e T (svL L (gsX μ)) (x_sl μ) S0 S1) (XL x0 s0 s1 e0 E A B G T μ) s.heap.size) ([.ref (x0), .int a1, .int a2, .int a3] : List Value).toArray s 3 40 (OA (XL x0 s0 s1 e0 E A B G T μ) s.heap.size)) (F0 m 0 ls []) from K9 s.heap [] hP va_S.rf
  intro H locs hP hS
  have hSz : s.heap.size ≤ H.size := hS.1
  unfold f_X4_lay at h
  refine lv_iload_n hx hb dX4_lay_0 rfl (lv_at hl 3 rfl) ?_
  obtain ⟨r1o, er1, h⟩ := obind h
  rcases r1o with r1 | Er1
  · replace h := sumL h
    refine call_R (va_runS (As := [.int a3]) (rest := []) ⟨hx, hb, hml, hown, hts⟩ (c_X4_requireTurn l z0 D t a3 _ er1) (kS hts qw612 qw613 qw1 qw614 ok_X4_requireTurn ⟨Nat.le_of_ble_eq_true rfl, Nat.le_of_ble_eq_true rfl⟩) ⟨PR.blind, fun U hU hW => ⟨rfl, by rw [hU]; exact (hC.at hS hZ).warm hW, by rw [hU]; exact va_P_nil⟩⟩ rfl rfl hl.1 rfl (lv_room (Nat.le_of_ble_eq_true rfl)) dX4_lay_1 ⟨Nat.le_of_ble_eq_true rfl, Nat.le_of_ble_eq_true rfl⟩) ?_
    refine lv_aload_n hx hb dX4_lay_4 rfl (lv_at hl 0 rfl) ?_
    obtain ⟨r2, er2, h⟩ := obind h
    refine call_S (va_runV (As := []) (rest := []) ⟨hx, hb, hml, hown, hts⟩ (c_X4_saveState l z0 D t x0 s0 s1 e0 E A B G T μ L S0 S1 H.size hRep hnL) (kV hts qw457 qw459 qs15 qw1 qw460 ok_X4_saveState ⟨Nat.le_of_ble_eq_true rfl, Nat.le_of_ble_eq_true rfl⟩) ⟨PM.blind, va_recv hK hP (ci := 5) (q0 := 0) rfl rfl, fun U hU hW => ⟨rfl, by rw [hU]; exact (hC.at hS hZ).warm hW, by rw [hU], by rw [hU]; exact hP, ⟨hD.1, fun _ _ h9 => Or.inl (in_map (L := (XL x0 s0 s1 e0 E A B G T μ)) rfl h9)⟩, fun q hq => hZ q (OA.ofD hD rfl hSz q hq)⟩⟩ rfl rfl hl.1 rfl (lv_room (Nat.le_of_ble_eq_true rfl)) dX4_lay_5 ⟨Nat.le_of_ble_eq_true rfl, Nat.le_of_ble_eq_true rfl⟩) hS (OA.ofD hD rfl hSz) (fun e1 T1 H locs hRp hP hD1 hS _ _ => ?_)
    have hP : va_P D vwCl (XW x0 s0 s1 e1 E A B G T1 t (svX μ)) H := hP
    rw [svX_eq er2] at hP hD1
    have hP : va_P D vwCl (XW x0 s0 s1 e1 E A B G T1 t (x_lsize' (x_lmod' μ r2.1) r2.2)) H := hP
    have hD : va_D (OA (XL x0 s0 s1 e0 E A B G T μ) s.heap.size) (XW x0 s0 s1 e1 E A B G T1 t (x_lsize' (x_lmod' μ r2.1) r2.2)) := hD1.weaken (fun _ q _ h9 => OA.ofD hD rfl hSz q.1 h9)
    have hSz : s.heap.size ≤ H.size := hS.1
    refine W.widen (k := 3) (n := 40) (by omega) (by omega) ?_
    refine lv_aload_n hx hb dX4_lay_8 rfl (lv_at hl 0 rfl) ?_
    refine va_get hx hb hts inX4 hown hK hP 0 rfl rfl 4 (by decide) (hts _ qw159) (fun _ h9 => h9) rfl dX4_lay_9 ?_
    refine lv_iload_n hx hb dX4_lay_12 rfl (lv_at hl 1 rfl) ?_
    refine lv_iload_n hx hb dX4_lay_13 rfl (lv_at hl 2 rfl) ?_
    refine lv_iload_n hx hb dX4_lay_14 rfl (lv_at hl 3 rfl) ?_
    obtain ⟨r3, er3, h⟩ := obind h
    refine call_R (va_runV (As := [.int a1, .int a2, .int a3]) (rest := []) ⟨hx, hb, hml, hown, hts⟩ (c_X1_whyRefused l z0 D t G ((x_wide μ), (x_high μ), (x_pond μ), (x_walls μ), (x_paved μ), (x_tc μ), (x_flips μ), (x_refused μ), (x_names μ)) a1 a2 a3 _ er3) (kV hts qw616 qw617 qw618 qw8 qw619 ok_X1_whyRefused ⟨Nat.le_of_ble_eq_true rfl, Nat.le_of_ble_eq_true rfl⟩) ⟨PR.blind, va_recv hK (sub_X_G (μ := x_lsize' (x_lmod' μ r2.1) r2.2) hP) (ci := 2) (q0 := 0) rfl rfl, fun U hU hW => ⟨rfl, by rw [hU]; exact (hC.at hS hZ).warm hW, by rw [hU]; exact (sub_X_G (μ := x_lsize' (x_lmod' μ r2.1) r2.2) hP)⟩⟩ rfl rfl hl.1 rfl (lv_room (Nat.le_of_ble_eq_true rfl)) dX4_lay_15 ⟨Nat.le_of_ble_eq_true rfl, Nat.le_of_ble_eq_true rfl⟩) ?_
    refine lv_istore (lv' := [(4, .int r3), (0, .ref (x0)), (1, .int a1), (2, .int a2), (3, .int a3)]) hx hb dX4_lay_18 hl (by decide) rfl (fun ls hl => ?_)
    refine lv_iload hx hb dX4_lay_20 (lv_at hl 0 rfl) ?_
    refine lv_if_ne (tgt := 38) hx hb dX4_lay_22 (by decide) (fun hc => ?_) (fun hc => ?_)
    · have h := iteF hc h
      refine lv_aload_n hx hb dX4_lay_38 rfl (lv_at hl 1 rfl) ?_
      refine va_get hx hb hts inX4 hown hK hP 0 rfl rfl 4 (by decide) (hts _ qw159) (fun _ h9 => h9) rfl dX4_lay_39 ?_
      refine lv_dup hx hb dX4_lay_42 rfl ?_
      refine va_get hx hb hts inX1 hown hK hP 13 rfl rfl 7 (by decide) (hts _ qw134) (fun _ h9 => h9) rfl dX4_lay_43 ?_
      refine lv_iconst (v := (1)) hx hb dX4_lay_46 (by decide) ?_
      refine lv_iadd hx hb dX4_lay_47 ?_
      obtain ⟨x4, ex4, h⟩ := jlet_some h
      refine topI ex4 ?_
      refine va_put (D := D) (ci := 2) (v := .int x4) (ty := .int) hx hb hts inX1 tyX1 tyX1_ok nmX1 hown hK hP hD hS 13 rfl rfl 7 (by decide) (hts _ qw134) (fun _ h9 => h9) rfl (by decide +kernel) rfl rfl (Nat.le_of_ble_eq_true rfl) dX4_lay_48 (fun H locs hP hD hS => ?_)
      have hP : va_P D vwCl (XW x0 s0 s1 e1 E A B G T1 t (x_lsize' (x_lmod' (x_refused' μ x4) r2.1) r2.2)) H := hP
      have hD : va_D (OA (XL x0 s0 s1 e0 E A B G T μ) s.heap.size) (XW x0 s0 s1 e1 E A B G T1 t (x_lsize' (x_lmod' (x_refused' μ x4) r2.1) r2.2)) := hD
      have hSz : s.heap.size ≤ H.size := hS.1
      refine lv_iload hx hb dX4_lay_51 (lv_at hl 0 rfl) ?_
      obtain rfl := Sum.inl.inj (Option.some.inj h)
      exact W.iret hx hb hr (fun t ht hW => ⟨e1, T1, hRp, rfl, by rw [ht]; exact hP, hD, hS.F ht⟩) hS.2.2 dX4_lay_53
    · have h := iteT hc h
      refine lv_aload_n hx hb dX4_lay_25 rfl (lv_at hl 1 rfl) ?_
      refine va_get hx hb hts inX4 hown hK hP 0 rfl rfl 4 (by decide) (hts _ qw159) (fun _ h9 => h9) rfl dX4_lay_26 ?_
      refine lv_iload_n hx hb dX4_lay_29 rfl (lv_at hl 2 rfl) ?_
      refine lv_iload_n hx hb dX4_lay_30 rfl (lv_at hl 3 rfl) ?_
      refine lv_iload_n hx hb dX4_lay_31 rfl (lv_at hl 4 rfl) ?_
      obtain ⟨r5, er5, h⟩ := obind h
      refine call_M (va_runV (As := [.int a1, .int a2, .int a3]) (rest := []) ⟨hx, hb, hml, hown, hts⟩ (c_X1_putTriple l z0 D t G ((x_wide μ), (x_high μ), (x_pond μ), (x_walls μ), (x_paved μ), (x_tc μ), (x_flips μ), (x_refused μ), (x_names μ)) a1 a2 a3 _ H.size er5) (kV hts qw622 qw623 qw624 qw8 qw625 ok_X1_putTriple ⟨Nat.le_of_ble_eq_true rfl, Nat.le_of_ble_eq_true rfl⟩) ⟨PM.blind, va_recv hK (sub_X_G (μ := x_lsize' (x_lmod' μ r2.1) r2.2) hP) (ci := 2) (q0 := 0) rfl rfl, fun U hU hW => ⟨rfl, by rw [hU]; exact (hC.at hS hZ).warm hW, by rw [hU], by rw [hU]; exact (sub_X_G (μ := x_lsize' (x_lmod' μ r2.1) r2.2) hP), ⟨(subD_X_G (μ := x_lsize' (x_lmod' μ r2.1) r2.2) hD).1, fun _ _ h9 => Or.inl (in_map (L := (GL G)) rfl h9)⟩, fun q hq => hZ q (OA.ofD (subD_X_G (μ := x_lsize' (x_lmod' μ r2.1) r2.2) hD) rfl hSz q hq)⟩⟩ rfl rfl hl.1 rfl (lv_room (Nat.le_of_ble_eq_true rfl)) dX4_lay_32 ⟨Nat.le_of_ble_eq_true rfl, Nat.le_of_ble_eq_true rfl⟩) hS (OA.ofD (subD_X_G (μ := x_lsize' (x_lmod' μ r2.1) r2.2) hD) rfl hSz) (fun H locs hP1 hD1 hS _ hk1 => ?_)
      obtain ⟨hP, hD⟩ := back_X_G (μ := x_lsize' (x_lmod' μ r2.1) r2.2) hP hD hk1 hP1
      have hP : va_P D vwCl (XW x0 s0 s1 e1 E A B G T1 t (x_length μ, x_codes μ, x_rest μ, x_takes μ, x_u1 μ, x_u2 μ, x_hsz μ, x_hwin μ, x_hway μ, x_nsz μ, x_nwin μ, x_nway μ, x_wide μ, x_high μ, x_pond μ, x_walls μ, r5.1, r5.2.1, x_flips μ, x_refused μ, r5.2.2, x_sl μ, r2.1, r2.2)) H := hP
      have hD : va_D (OA (XL x0 s0 s1 e0 E A B G T μ) s.heap.size) (XW x0 s0 s1 e1 E A B G T1 t (x_length μ, x_codes μ, x_rest μ, x_takes μ, x_u1 μ, x_u2 μ, x_hsz μ, x_hwin μ, x_hway μ, x_nsz μ, x_nwin μ, x_nway μ, x_wide μ, x_high μ, x_pond μ, x_walls μ, r5.1, r5.2.1, x_flips μ, x_refused μ, r5.2.2, x_sl μ, r2.1, r2.2)) := hD
      have hSz : s.heap.size ≤ H.size := hS.1
      refine lv_goto (tgt := 51) hx hb dX4_lay_35 (by decide) ?_
      refine lv_iload hx hb dX4_lay_51 (lv_at hl 0 rfl) ?_
      obtain rfl := Sum.inl.inj (Option.some.inj h)
      exact W.iret hx hb hr (fun t ht hW => ⟨e1, T1, hRp, rfl, by rw [ht]; exact hP, hD, hS.F ht⟩) hS.2.2 dX4_lay_53
  · replace h := sumR h
    exact absurd (Option.some.inj h) (fun z => by cases z)

abbrev rx_X4_lay : Room := { frames := 10, cells := 4, slots := 46, locals := 340 }
set_option maxHeartbeats 4000000 in
set_option maxRecDepth 100000 in
theorem x_X4_lay (l : Launch) (hl9 : l.stackTraces = false) (z0 : Nat) (D : va_G) (t : Nat → ClassId) (x0 : Nat) (s0 : Nat) (s1 : Nat) (e0 : Nat) (E : Nat → Nat) (A : Nat → Nat) (B : Nat → Nat) (G : Nat → Nat) (T : va_W) (μ : XS) (a1 : Int32) (a2 : Int32) (a3 : Int32) (xE : String) (sz : Nat) (L : List GS) (S0 S1 : Option GS) (hRep : Rep t e0 T L (x_sl μ) S0 S1) (hnL : x_lsize μ = nI L.length) (h : f_X4_lay μ a1 a2 a3 = some (.inr xE)) : vx_Met l yX4_lay (ws_ yX4_lay cX4_lay 5 (some .int)) rx_X4_lay (PM z0 D t [.ref (x0), .int a1, .int a2, .int a3] (XW x0 s0 s1 e0 E A B G T t μ) (XL x0 s0 s1 e0 E A B G T μ) sz) (fun _ _ _ _ => False) (XM xE D (XW x0 s0 s1 e0 E A B G T t μ) (XL x0 s0 s1 e0 E A B G T μ) sz) 4 46 (OA (XL x0 s0 s1 e0 E A B G T μ) sz) := by
  refine vx_ofW (cc := cX4_lay) (maxL := 5) (ret := (some .int)) (by decide) rfl ?_
  intro p e s m args below meth c s₁ Bo hml hT hv
  obtain ⟨rfl, hC, hsz, hP, hD, hZ⟩ := hv
  have hx := Bo.exec
  have hb := Bo.bytes
  have hr := Bo.returns
  have hts : ∀ w ∈ LA, w.before _ s = true := fun w hw => atoms_spec (ws := ws_ yX4_lay cX4_lay 5 (some .int)) Bo.pre w (List.mem_cons_of_mem _ hw)
  have hown : s.vm.findClass RX4 = some m.cls := findClass_of_methodNamed Bo.named
  have hlocks := Bo.notSynchronized
  have hK := hC.1
  subst hsz
  have hl := lv_entry ([.ref (x0), .int a1, .int a2, .int a3]) (n := 5) (Nat.le_of_ble_eq_true rfl)
  rw [lg_entry_eq]
  generalize (lg_sl ([.ref (x0), .int a1, .int a2, .int a3]) ++ List.replicate (5 - (lg_sl ([.ref (x0), .int a1, .int a2, .int a3])).length) Slot.unset).toArray = ls at hl ⊢
  have hl : lv_has ls 5 [(0, .ref (x0)), (1, .int a1), (2, .int a2), (3, .int a3)] := hl
  suffices K9 : ∀ (H : Heap) (locs : List Loc), va_P D vwCl (XW x0 s0 s1 e0 E A B G T t μ) H → va_S (OA (XL x0 s0 s1 e0 E A B G T μ) s.heap.size) s.heap H locs → W p l e (headSpec (ws_ yX4_lay cX4_lay 5 (some .int)) rx_X4_lay).room s m ([.ref (x0), .int a1, .int a2, .int a3] : List Value).toArray below meth c H locs 0 0 (vx_MQ below (fun _ _ _ _ => False) (XM xE D (XW x0 s0 s1 e0 E A B G T t μ) (XL x0 s0 s1 e0 E A B G T μ) s.heap.size) ([.ref (x0), .int a1, .int a2, .int a3] : List Value).toArray s 4 46 (OA (XL x0 s0 s1 e0 E A B G T μ) s.heap.size)) (F0 m 0 ls []) from K9 s.heap [] hP va_S.rf
  intro H locs hP hS
  have hSz : s.heap.size ≤ H.size := hS.1
  unfold f_X4_lay at h
  refine lv_iload_n hx hb dX4_lay_0 rfl (lv_at hl 3 rfl) ?_
  obtain ⟨r1o, er1, h⟩ := obind h
  rcases r1o with r1 | Er1
  · replace h := sumL h
    refine call_R (va_runS (As := [.int a3]) (rest := []) ⟨hx, hb, hml, hown, hts⟩ (c_X4_requireTurn l z0 D t a3 _ er1) (kS hts qw612 qw613 qw1 qw614 ok_X4_requireTurn ⟨Nat.le_of_ble_eq_true rfl, Nat.le_of_ble_eq_true rfl⟩) ⟨PR.blind, fun U hU hW => ⟨rfl, by rw [hU]; exact (hC.at hS hZ).warm hW, by rw [hU]; exact va_P_nil⟩⟩ rfl rfl hl.1 rfl (lv_room (Nat.le_of_ble_eq_true rfl)) dX4_lay_1 ⟨Nat.le_of_ble_eq_true rfl, Nat.le_of_ble_eq_true rfl⟩) ?_
    refine lv_aload_n hx hb dX4_lay_4 rfl (lv_at hl 0 rfl) ?_
    obtain ⟨r2, er2, h⟩ := obind h
    refine call_S (va_runV (As := []) (rest := []) ⟨hx, hb, hml, hown, hts⟩ (c_X4_saveState l z0 D t x0 s0 s1 e0 E A B G T μ L S0 S1 H.size hRep hnL) (kV hts qw457 qw459 qs15 qw1 qw460 ok_X4_saveState ⟨Nat.le_of_ble_eq_true rfl, Nat.le_of_ble_eq_true rfl⟩) ⟨PM.blind, va_recv hK hP (ci := 5) (q0 := 0) rfl rfl, fun U hU hW => ⟨rfl, by rw [hU]; exact (hC.at hS hZ).warm hW, by rw [hU], by rw [hU]; exact hP, ⟨hD.1, fun _ _ h9 => Or.inl (in_map (L := (XL x0 s0 s1 e0 E A B G T μ)) rfl h9)⟩, fun q hq => hZ q (OA.ofD hD rfl hSz q hq)⟩⟩ rfl rfl hl.1 rfl (lv_room (Nat.le_of_ble_eq_true rfl)) dX4_lay_5 ⟨Nat.le_of_ble_eq_true rfl, Nat.le_of_ble_eq_true rfl⟩) hS (OA.ofD hD rfl hSz) (fun e1 T1 H locs hRp hP hD1 hS _ _ => ?_)
    have hP : va_P D vwCl (XW x0 s0 s1 e1 E A B G T1 t (svX μ)) H := hP
    rw [svX_eq er2] at hP hD1
    have hP : va_P D vwCl (XW x0 s0 s1 e1 E A B G T1 t (x_lsize' (x_lmod' μ r2.1) r2.2)) H := hP
    have hD : va_D (OA (XL x0 s0 s1 e0 E A B G T μ) s.heap.size) (XW x0 s0 s1 e1 E A B G T1 t (x_lsize' (x_lmod' μ r2.1) r2.2)) := hD1.weaken (fun _ q _ h9 => OA.ofD hD rfl hSz q.1 h9)
    have hSz : s.heap.size ≤ H.size := hS.1
    refine W.widen (k := 3) (n := 40) (by omega) (by omega) ?_
    refine lv_aload_n hx hb dX4_lay_8 rfl (lv_at hl 0 rfl) ?_
    refine va_get hx hb hts inX4 hown hK hP 0 rfl rfl 4 (by decide) (hts _ qw159) (fun _ h9 => h9) rfl dX4_lay_9 ?_
    refine lv_iload_n hx hb dX4_lay_12 rfl (lv_at hl 1 rfl) ?_
    refine lv_iload_n hx hb dX4_lay_13 rfl (lv_at hl 2 rfl) ?_
    refine lv_iload_n hx hb dX4_lay_14 rfl (lv_at hl 3 rfl) ?_
    obtain ⟨r3, er3, h⟩ := obind h
    refine call_R (va_runV (As := [.int a1, .int a2, .int a3]) (rest := []) ⟨hx, hb, hml, hown, hts⟩ (c_X1_whyRefused l z0 D t G ((x_wide μ), (x_high μ), (x_pond μ), (x_walls μ), (x_paved μ), (x_tc μ), (x_flips μ), (x_refused μ), (x_names μ)) a1 a2 a3 _ er3) (kV hts qw616 qw617 qw618 qw8 qw619 ok_X1_whyRefused ⟨Nat.le_of_ble_eq_true rfl, Nat.le_of_ble_eq_true rfl⟩) ⟨PR.blind, va_recv hK (sub_X_G (μ := x_lsize' (x_lmod' μ r2.1) r2.2) hP) (ci := 2) (q0 := 0) rfl rfl, fun U hU hW => ⟨rfl, by rw [hU]; exact (hC.at hS hZ).warm hW, by rw [hU]; exact (sub_X_G (μ := x_lsize' (x_lmod' μ r2.1) r2.2) hP)⟩⟩ rfl rfl hl.1 rfl (lv_room (Nat.le_of_ble_eq_true rfl)) dX4_lay_15 ⟨Nat.le_of_ble_eq_true rfl, Nat.le_of_ble_eq_true rfl⟩) ?_
    refine lv_istore (lv' := [(4, .int r3), (0, .ref (x0)), (1, .int a1), (2, .int a2), (3, .int a3)]) hx hb dX4_lay_18 hl (by decide) rfl (fun ls hl => ?_)
    refine lv_iload hx hb dX4_lay_20 (lv_at hl 0 rfl) ?_
    refine lv_if_ne (tgt := 38) hx hb dX4_lay_22 (by decide) (fun hc => ?_) (fun hc => ?_)
    · have h := iteF hc h
      refine lv_aload_n hx hb dX4_lay_38 rfl (lv_at hl 1 rfl) ?_
      refine va_get hx hb hts inX4 hown hK hP 0 rfl rfl 4 (by decide) (hts _ qw159) (fun _ h9 => h9) rfl dX4_lay_39 ?_
      refine lv_dup hx hb dX4_lay_42 rfl ?_
      refine va_get hx hb hts inX1 hown hK hP 13 rfl rfl 7 (by decide) (hts _ qw134) (fun _ h9 => h9) rfl dX4_lay_43 ?_
      refine lv_iconst (v := (1)) hx hb dX4_lay_46 (by decide) ?_
      refine lv_iadd hx hb dX4_lay_47 ?_
      obtain ⟨x4, ex4, h⟩ := jlet_some h
      refine topI ex4 ?_
      refine va_put (D := D) (ci := 2) (v := .int x4) (ty := .int) hx hb hts inX1 tyX1 tyX1_ok nmX1 hown hK hP hD hS 13 rfl rfl 7 (by decide) (hts _ qw134) (fun _ h9 => h9) rfl (by decide +kernel) rfl rfl (Nat.le_of_ble_eq_true rfl) dX4_lay_48 (fun H locs hP hD hS => ?_)
      have hP : va_P D vwCl (XW x0 s0 s1 e1 E A B G T1 t (x_lsize' (x_lmod' (x_refused' μ x4) r2.1) r2.2)) H := hP
      have hD : va_D (OA (XL x0 s0 s1 e0 E A B G T μ) s.heap.size) (XW x0 s0 s1 e1 E A B G T1 t (x_lsize' (x_lmod' (x_refused' μ x4) r2.1) r2.2)) := hD
      have hSz : s.heap.size ≤ H.size := hS.1
      refine lv_iload hx hb dX4_lay_51 (lv_at hl 0 rfl) ?_
      exact absurd (Option.some.inj h) (fun z => by cases z)
    · have h := iteT hc h
      refine lv_aload_n hx hb dX4_lay_25 rfl (lv_at hl 1 rfl) ?_
      refine va_get hx hb hts inX4 hown hK hP 0 rfl rfl 4 (by decide) (hts _ qw159) (fun _ h9 => h9) rfl dX4_lay_26 ?_
      refine lv_iload_n hx hb dX4_lay_29 rfl (lv_at hl 2 rfl) ?_
      refine lv_iload_n hx hb dX4_lay_30 rfl (lv_at hl 3 rfl) ?_
      refine lv_iload_n hx hb dX4_lay_31 rfl (lv_at hl 4 rfl) ?_
      obtain ⟨r5, er5, h⟩ := obind h
      refine call_M (va_runV (As := [.int a1, .int a2, .int a3]) (rest := []) ⟨hx, hb, hml, hown, hts⟩ (c_X1_putTriple l z0 D t G ((x_wide μ), (x_high μ), (x_pond μ), (x_walls μ), (x_paved μ), (x_tc μ), (x_flips μ), (x_refused μ), (x_names μ)) a1 a2 a3 _ H.size er5) (kV hts qw622 qw623 qw624 qw8 qw625 ok_X1_putTriple ⟨Nat.le_of_ble_eq_true rfl, Nat.le_of_ble_eq_true rfl⟩) ⟨PM.blind, va_recv hK (sub_X_G (μ := x_lsize' (x_lmod' μ r2.1) r2.2) hP) (ci := 2) (q0 := 0) rfl rfl, fun U hU hW => ⟨rfl, by rw [hU]; exact (hC.at hS hZ).warm hW, by rw [hU], by rw [hU]; exact (sub_X_G (μ := x_lsize' (x_lmod' μ r2.1) r2.2) hP), ⟨(subD_X_G (μ := x_lsize' (x_lmod' μ r2.1) r2.2) hD).1, fun _ _ h9 => Or.inl (in_map (L := (GL G)) rfl h9)⟩, fun q hq => hZ q (OA.ofD (subD_X_G (μ := x_lsize' (x_lmod' μ r2.1) r2.2) hD) rfl hSz q hq)⟩⟩ rfl rfl hl.1 rfl (lv_room (Nat.le_of_ble_eq_true rfl)) dX4_lay_32 ⟨Nat.le_of_ble_eq_true rfl, Nat.le_of_ble_eq_true rfl⟩) hS (OA.ofD (subD_X_G (μ := x_lsize' (x_lmod' μ r2.1) r2.2) hD) rfl hSz) (fun H locs hP1 hD1 hS _ hk1 => ?_)
      obtain ⟨hP, hD⟩ := back_X_G (μ := x_lsize' (x_lmod' μ r2.1) r2.2) hP hD hk1 hP1
      have hP : va_P D vwCl (XW x0 s0 s1 e1 E A B G T1 t (x_length μ, x_codes μ, x_rest μ, x_takes μ, x_u1 μ, x_u2 μ, x_hsz μ, x_hwin μ, x_hway μ, x_nsz μ, x_nwin μ, x_nway μ, x_wide μ, x_high μ, x_pond μ, x_walls μ, r5.1, r5.2.1, x_flips μ, x_refused μ, r5.2.2, x_sl μ, r2.1, r2.2)) H := hP
      have hD : va_D (OA (XL x0 s0 s1 e0 E A B G T μ) s.heap.size) (XW x0 s0 s1 e1 E A B G T1 t (x_length μ, x_codes μ, x_rest μ, x_takes μ, x_u1 μ, x_u2 μ, x_hsz μ, x_hwin μ, x_hway μ, x_nsz μ, x_nwin μ, x_nway μ, x_wide μ, x_high μ, x_pond μ, x_walls μ, r5.1, r5.2.1, x_flips μ, x_refused μ, r5.2.2, x_sl μ, r2.1, r2.2)) := hD
      have hSz : s.heap.size ≤ H.size := hS.1
      refine lv_goto (tgt := 51) hx hb dX4_lay_35 (by decide) ?_
      refine lv_iload hx hb dX4_lay_51 (lv_at hl 0 rfl) ?_
      exact absurd (Option.some.inj h) (fun z => by cases z)
  · replace h := sumR h
    obtain rfl := Sum.inr.inj (Option.some.inj h)
    refine call_X (vx_runS (As := [.int a3]) (rest := []) ⟨hx, hb, hml, hown, hts⟩ (x_X4_requireTurn l hl9 z0 D t a3 _ H.size er1) (kS hts qw612 qw613 qw1 qw614 ok_X4_requireTurn ⟨Nat.le_of_ble_eq_true rfl, Nat.le_of_ble_eq_true rfl⟩) ⟨PM.blind, fun U hU hW => ⟨rfl, by rw [hU]; exact (hC.at hS hZ).warm hW, by rw [hU], by rw [hU]; exact va_P_nil, ⟨(va_D_nil (A := OA [] s.heap.size)).1, fun _ _ h9 => Or.inl (in_map (L := []) rfl h9)⟩, fun q hq => hZ q (OA.nil hSz q hq)⟩⟩ rfl rfl hl.1 rfl (lv_room (Nat.le_of_ble_eq_true rfl)) dX4_lay_1 ⟨Nat.le_of_ble_eq_true rfl, Nat.le_of_ble_eq_true rfl⟩) hS (OA.nil hSz) (fun H locs q9 ce9 hP1 hD1 hS hsz1 hk1 hce hcv hcc => ?_)
    have hP : va_P D vwCl (XW x0 s0 s1 e0 E A B G T t μ) H := va_P.keptN hP hk1
    exact vx_out (fun x9 hx9 => (hT x9 hx9).elim) hlocks hce hcv hcc (fun t9 h8 _ => XM.mk2 hP hD hS h8) hS.2.2 (Nat.le_of_ble_eq_true rfl) (Nat.le_of_ble_eq_true rfl)

abbrev rm_X4_lift : Room := { frames := 10, cells := 3, slots := 40, locals := 340 }
theorem ok_X4_lift : okY yX4_lift 2 := ⟨by decide +kernel, by decide +kernel, by decide +kernel⟩
set_option maxHeartbeats 4000000 in
set_option maxRecDepth 100000 in
theorem c_X4_lift (l : Launch) (z0 : Nat) (D : va_G) (t : Nat → ClassId) (x0 : Nat) (s0 : Nat) (s1 : Nat) (e0 : Nat) (E : Nat → Nat) (A : Nat → Nat) (B : Nat → Nat) (G : Nat → Nat) (T : va_W) (μ : XS) (a1 : Int32) (a2 : Int32) (res : Int32 × (Int64) × (Int32) × (Nat → Int32) × (Int32) × (Int32)) (sz : Nat) (L : List GS) (S0 S1 : Option GS) (hRep : Rep t e0 T L (x_sl μ) S0 S1) (hnL : x_lsize μ = nI L.length) (h : f_X4_lift μ a1 a2 = some (.inl res)) : Met l yX4_lift (ws_ yX4_lift cX4_lift 4 (some .int)) rm_X4_lift (PM z0 D t [.ref (x0), .int a1, .int a2] (XW x0 s0 s1 e0 E A B G T t μ) (XL x0 s0 s1 e0 E A B G T μ) sz) (QS (some (.int res.1)) D (fun e T => (XW x0 s0 s1 e E A B G T t (x_length μ, x_codes μ, x_rest μ, x_takes μ, x_u1 μ, x_u2 μ, x_hsz μ, x_hwin μ, x_hway μ, x_nsz μ, x_nwin μ, x_nway μ, x_wide μ, x_high μ, x_pond μ, x_walls μ, res.2.1, res.2.2.1, x_flips μ, x_refused μ, res.2.2.2.1, x_sl μ, res.2.2.2.2.1, res.2.2.2.2.2))) (fun e T => Rep t e T (svL L (gsX μ)) (x_sl μ) S0 S1) (XL x0 s0 s1 e0 E A B G T μ) sz) 3 40 (OA (XL x0 s0 s1 e0 E A B G T μ) sz) := by
  refine Met.ofW (cc := cX4_lift) (maxL := 4) (ret := (some .int)) (by decide) rfl ?_
  intro p e s m args below meth c s₁ Bo hml hv
  obtain ⟨rfl, hC, hsz, hP, hD, hZ⟩ := hv
  have hx := Bo.exec
  have hb := Bo.bytes
  have hr := Bo.returns
  have hts : ∀ w ∈ LA, w.before _ s = true := fun w hw => atoms_spec (ws := ws_ yX4_lift cX4_lift 4 (some .int)) Bo.pre w (List.mem_cons_of_mem _ hw)
  have hown : s.vm.findClass RX4 = some m.cls := findClass_of_methodNamed Bo.named
  have hlocks := Bo.notSynchronized
  have hK := hC.1
  subst hsz
  have hl := lv_entry ([.ref (x0), .int a1, .int a2]) (n := 4) (Nat.le_of_ble_eq_true rfl)
  rw [lg_entry_eq]
  generalize (lg_sl ([.ref (x0), .int a1, .int a2]) ++ List.replicate (4 - (lg_sl ([.ref (x0), .int a1, .int a2])).length) Slot.unset).toArray = ls at hl ⊢
  have hl : lv_has ls 4 [(0, .ref (x0)), (1, .int a1), (2, .int a2)] := hl
  suffices K9 : ∀ (H : Heap) (locs : List Loc), va_P D vwCl (XW x0 s0 s1 e0 E A B G T t μ) H → va_S (OA (XL x0 s0 s1 e0 E A B G T μ) s.heap.size) s.heap H locs → W p l e (headSpec (ws_ yX4_lift cX4_lift 4 (some .int)) rm_X4_lift).room s m ([.ref (x0), .int a1, .int a2] : List Value).toArray below meth c H locs 0 0 (MQ below (QS (some (.int res.1)) D (fun e T => (XW x0 s0 s1 e E A B G T t (x_length μ, x_codes μ, x_rest μ, x_takes μ, x_u1 μ, x_u2 μ, x_hsz μ, x_hwin μ, x_hway μ, x_nsz μ, x_nwin μ, x_nway μ, x_wide μ, x_high μ, x_pond μ, x_walls μ, res.2.1, res.2.2.1, x_flips μ, x_refused μ, res.2.2.2.1, x_sl μ, res.2.2.2.2.1, res.2.2.2.2.2))) (fun e T => Rep t e T (svL L (gsX μ)) (x_sl μ) S0 S1) (XL x0 s0 s1 e0 E A B G T μ) s.heap.size) ([.ref (x0), .int a1, .int a2] : List Value).toArray s 3 40 (OA (XL x0 s0 s1 e0 E A B G T μ) s.heap.size)) (F0 m 0 ls []) from K9 s.heap [] hP va_S.rf
  intro H locs hP hS
  have hSz : s.heap.size ≤ H.size := hS.1
  unfold f_X4_lift at h
  refine lv_aload_n hx hb dX4_lift_0 rfl (lv_at hl 0 rfl) ?_
  refine lv_iload_n hx hb dX4_lift_1 rfl (lv_at hl 1 rfl) ?_
  refine lv_iload_n hx hb dX4_lift_2 rfl (lv_at hl 2 rfl) ?_
  obtain ⟨r1o, er1, h⟩ := obind h
  rcases r1o with r1 | Er1
  · replace h := sumL h
    refine call_R (va_runV (As := [.int a1, .int a2]) (rest := []) ⟨hx, hb, hml, hown, hts⟩ (c_X4_requireCell l z0 D t x0 s0 s1 e0 E A B G T μ a1 a2 _ er1) (kV hts qw554 qw556 qs20 qw1 qw557 ok_X4_requireCell ⟨Nat.le_of_ble_eq_true rfl, Nat.le_of_ble_eq_true rfl⟩) ⟨PR.blind, va_recv hK hP (ci := 5) (q0 := 0) rfl rfl, fun U hU hW => ⟨rfl, by rw [hU]; exact (hC.at hS hZ).warm hW, by rw [hU]; exact hP⟩⟩ rfl rfl hl.1 rfl (lv_room (Nat.le_of_ble_eq_true rfl)) dX4_lift_3 ⟨Nat.le_of_ble_eq_true rfl, Nat.le_of_ble_eq_true rfl⟩) ?_
    refine lv_aload_n hx hb dX4_lift_6 rfl (lv_at hl 0 rfl) ?_
    refine va_get hx hb hts inX4 hown hK hP 0 rfl rfl 4 (by decide) (hts _ qw159) (fun _ h9 => h9) rfl dX4_lift_7 ?_
    refine lv_iload_n hx hb dX4_lift_10 rfl (lv_at hl 1 rfl) ?_
    refine lv_iload_n hx hb dX4_lift_11 rfl (lv_at hl 2 rfl) ?_
    obtain ⟨r2, er2, h⟩ := obind h
    refine call_R (va_runS (As := [.int a1, .int a2]) (rest := [.ref (G 0)]) ⟨hx, hb, hml, hown, hts⟩ (c_X4_cellAt l z0 D t a1 a2 _ er2) (kS hts qw578 qw229 qw1 qw230 ok_X4_cellAt ⟨Nat.le_of_ble_eq_true rfl, Nat.le_of_ble_eq_true rfl⟩) ⟨PR.blind, fun U hU hW => ⟨rfl, by rw [hU]; exact (hC.at hS hZ).warm hW, by rw [hU]; exact va_P_nil⟩⟩ rfl rfl hl.1 rfl (lv_room (Nat.le_of_ble_eq_true rfl)) dX4_lift_12 ⟨Nat.le_of_ble_eq_true rfl, Nat.le_of_ble_eq_true rfl⟩) ?_
    obtain ⟨r3, er3, h⟩ := obind h
    refine call_R (va_runV (As := [.long r2]) (rest := []) ⟨hx, hb, hml, hown, hts⟩ (c_X1_tripleOver l z0 D t G ((x_wide μ), (x_high μ), (x_pond μ), (x_walls μ), (x_paved μ), (x_tc μ), (x_flips μ), (x_refused μ), (x_names μ)) r2 _ er3) (kV hts qw636 qw637 qw638 qw8 qw639 ok_X1_tripleOver ⟨Nat.le_of_ble_eq_true rfl, Nat.le_of_ble_eq_true rfl⟩) ⟨PR.blind, va_recv hK (sub_X_G (μ := μ) hP) (ci := 2) (q0 := 0) rfl rfl, fun U hU hW => ⟨rfl, by rw [hU]; exact (hC.at hS hZ).warm hW, by rw [hU]; exact (sub_X_G (μ := μ) hP)⟩⟩ rfl rfl hl.1 rfl (lv_room (Nat.le_of_ble_eq_true rfl)) dX4_lift_15 ⟨Nat.le_of_ble_eq_true rfl, Nat.le_of_ble_eq_true rfl⟩) ?_
    refine lv_istore_n (lv' := [(3, .int r3), (0, .ref (x0)), (1, .int a1), (2, .int a2)]) hx hb dX4_lift_18 rfl hl (by decide) rfl (fun ls hl => ?_)
    refine lv_iload_n hx hb dX4_lift_19 rfl (lv_at hl 0 rfl) ?_
    refine lv_iconst (v := (-1)) hx hb dX4_lift_20 (by decide) ?_
    refine lv_icmp_ne (tgt := 34) hx hb dX4_lift_21 (by decide) (fun hc => ?_) (fun hc => ?_)
    · have h := iteF hc h
      refine lv_aload_n hx hb dX4_lift_34 rfl (lv_at hl 1 rfl) ?_
      obtain ⟨r4, er4, h⟩ := obind h
      refine call_S (va_runV (As := []) (rest := []) ⟨hx, hb, hml, hown, hts⟩ (c_X4_saveState l z0 D t x0 s0 s1 e0 E A B G T μ L S0 S1 H.size hRep hnL) (kV hts qw457 qw459 qs15 qw1 qw460 ok_X4_saveState ⟨Nat.le_of_ble_eq_true rfl, Nat.le_of_ble_eq_true rfl⟩) ⟨PM.blind, va_recv hK hP (ci := 5) (q0 := 0) rfl rfl, fun U hU hW => ⟨rfl, by rw [hU]; exact (hC.at hS hZ).warm hW, by rw [hU], by rw [hU]; exact hP, ⟨hD.1, fun _ _ h9 => Or.inl (in_map (L := (XL x0 s0 s1 e0 E A B G T μ)) rfl h9)⟩, fun q hq => hZ q (OA.ofD hD rfl hSz q hq)⟩⟩ rfl rfl hl.1 rfl (lv_room (Nat.le_of_ble_eq_true rfl)) dX4_lift_35 ⟨Nat.le_of_ble_eq_true rfl, Nat.le_of_ble_eq_true rfl⟩) hS (OA.ofD hD rfl hSz) (fun e1 T1 H locs hRp hP hD1 hS _ _ => ?_)
      have hP : va_P D vwCl (XW x0 s0 s1 e1 E A B G T1 t (svX μ)) H := hP
      rw [svX_eq er4] at hP hD1
      have hP : va_P D vwCl (XW x0 s0 s1 e1 E A B G T1 t (x_lsize' (x_lmod' μ r4.1) r4.2)) H := hP
      have hD : va_D (OA (XL x0 s0 s1 e0 E A B G T μ) s.heap.size) (XW x0 s0 s1 e1 E A B G T1 t (x_lsize' (x_lmod' μ r4.1) r4.2)) := hD1.weaken (fun _ q _ h9 => OA.ofD hD rfl hSz q.1 h9)
      have hSz : s.heap.size ≤ H.size := hS.1
      refine W.widen (k := 3) (n := 40) (by omega) (by omega) ?_
      refine lv_aload_n hx hb dX4_lift_38 rfl (lv_at hl 1 rfl) ?_
      refine va_get hx hb hts inX4 hown hK hP 0 rfl rfl 4 (by decide) (hts _ qw159) (fun _ h9 => h9) rfl dX4_lift_39 ?_
      refine lv_iload_n hx hb dX4_lift_42 rfl (lv_at hl 0 rfl) ?_
      obtain ⟨r5, er5, h⟩ := obind h
      refine call_M (va_runV (As := [.int r3]) (rest := []) ⟨hx, hb, hml, hown, hts⟩ (c_X1_takeTriple l z0 D t G ((x_wide μ), (x_high μ), (x_pond μ), (x_walls μ), (x_paved μ), (x_tc μ), (x_flips μ), (x_refused μ), (x_names μ)) r3 _ H.size er5) (kV hts qw658 qw659 qw660 qw8 qw661 ok_X1_takeTriple ⟨Nat.le_of_ble_eq_true rfl, Nat.le_of_ble_eq_true rfl⟩) ⟨PM.blind, va_recv hK (sub_X_G (μ := x_lsize' (x_lmod' μ r4.1) r4.2) hP) (ci := 2) (q0 := 0) rfl rfl, fun U hU hW => ⟨rfl, by rw [hU]; exact (hC.at hS hZ).warm hW, by rw [hU], by rw [hU]; exact (sub_X_G (μ := x_lsize' (x_lmod' μ r4.1) r4.2) hP), ⟨(subD_X_G (μ := x_lsize' (x_lmod' μ r4.1) r4.2) hD).1, fun _ _ h9 => Or.inl (in_map (L := (GL G)) rfl h9)⟩, fun q hq => hZ q (OA.ofD (subD_X_G (μ := x_lsize' (x_lmod' μ r4.1) r4.2) hD) rfl hSz q hq)⟩⟩ rfl rfl hl.1 rfl (lv_room (Nat.le_of_ble_eq_true rfl)) dX4_lift_43 ⟨Nat.le_of_ble_eq_true rfl, Nat.le_of_ble_eq_true rfl⟩) hS (OA.ofD (subD_X_G (μ := x_lsize' (x_lmod' μ r4.1) r4.2) hD) rfl hSz) (fun H locs hP1 hD1 hS _ hk1 => ?_)
      obtain ⟨hP, hD⟩ := back_X_G (μ := x_lsize' (x_lmod' μ r4.1) r4.2) hP hD hk1 hP1
      have hP : va_P D vwCl (XW x0 s0 s1 e1 E A B G T1 t (x_length μ, x_codes μ, x_rest μ, x_takes μ, x_u1 μ, x_u2 μ, x_hsz μ, x_hwin μ, x_hway μ, x_nsz μ, x_nwin μ, x_nway μ, x_wide μ, x_high μ, x_pond μ, x_walls μ, r5.1, r5.2.1, x_flips μ, x_refused μ, r5.2.2, x_sl μ, r4.1, r4.2)) H := hP
      have hD : va_D (OA (XL x0 s0 s1 e0 E A B G T μ) s.heap.size) (XW x0 s0 s1 e1 E A B G T1 t (x_length μ, x_codes μ, x_rest μ, x_takes μ, x_u1 μ, x_u2 μ, x_hsz μ, x_hwin μ, x_hway μ, x_nsz μ, x_nwin μ, x_nway μ, x_wide μ, x_high μ, x_pond μ, x_walls μ, r5.1, r5.2.1, x_flips μ, x_refused μ, r5.2.2, x_sl μ, r4.1, r4.2)) := hD
      have hSz : s.heap.size ≤ H.size := hS.1
      refine lv_iload_n hx hb dX4_lift_46 rfl (lv_at hl 0 rfl) ?_
      obtain rfl := Sum.inl.inj (Option.some.inj h)
      exact W.iret hx hb hr (fun t ht hW => ⟨e1, T1, hRp, rfl, by rw [ht]; exact hP, hD, hS.F ht⟩) hS.2.2 dX4_lift_47
    · have h := iteT hc h
      exact absurd (Option.some.inj h) (fun z => by cases z)
  · replace h := sumR h
    exact absurd (Option.some.inj h) (fun z => by cases z)

abbrev rx_X4_lift : Room := { frames := 10, cells := 4, slots := 46, locals := 340 }
set_option maxHeartbeats 4000000 in
set_option maxRecDepth 100000 in
theorem x_X4_lift (l : Launch) (hl9 : l.stackTraces = false) (z0 : Nat) (D : va_G) (t : Nat → ClassId) (x0 : Nat) (s0 : Nat) (s1 : Nat) (e0 : Nat) (E : Nat → Nat) (A : Nat → Nat) (B : Nat → Nat) (G : Nat → Nat) (T : va_W) (μ : XS) (a1 : Int32) (a2 : Int32) (xE : String) (sz : Nat) (L : List GS) (S0 S1 : Option GS) (hRep : Rep t e0 T L (x_sl μ) S0 S1) (hnL : x_lsize μ = nI L.length) (h : f_X4_lift μ a1 a2 = some (.inr xE)) : vx_Met l yX4_lift (ws_ yX4_lift cX4_lift 4 (some .int)) rx_X4_lift (PM z0 D t [.ref (x0), .int a1, .int a2] (XW x0 s0 s1 e0 E A B G T t μ) (XL x0 s0 s1 e0 E A B G T μ) sz) (fun _ _ _ _ => False) (XM xE D (XW x0 s0 s1 e0 E A B G T t μ) (XL x0 s0 s1 e0 E A B G T μ) sz) 4 46 (OA (XL x0 s0 s1 e0 E A B G T μ) sz) := by
  refine vx_ofW (cc := cX4_lift) (maxL := 4) (ret := (some .int)) (by decide) rfl ?_
  intro p e s m args below meth c s₁ Bo hml hT hv
  obtain ⟨rfl, hC, hsz, hP, hD, hZ⟩ := hv
  have hx := Bo.exec
  have hb := Bo.bytes
  have hr := Bo.returns
  have hts : ∀ w ∈ LA, w.before _ s = true := fun w hw => atoms_spec (ws := ws_ yX4_lift cX4_lift 4 (some .int)) Bo.pre w (List.mem_cons_of_mem _ hw)
  have hown : s.vm.findClass RX4 = some m.cls := findClass_of_methodNamed Bo.named
  have hlocks := Bo.notSynchronized
  have hK := hC.1
  subst hsz
  have hl := lv_entry ([.ref (x0), .int a1, .int a2]) (n := 4) (Nat.le_of_ble_eq_true rfl)
  rw [lg_entry_eq]
  generalize (lg_sl ([.ref (x0), .int a1, .int a2]) ++ List.replicate (4 - (lg_sl ([.ref (x0), .int a1, .int a2])).length) Slot.unset).toArray = ls at hl ⊢
  have hl : lv_has ls 4 [(0, .ref (x0)), (1, .int a1), (2, .int a2)] := hl
  suffices K9 : ∀ (H : Heap) (locs : List Loc), va_P D vwCl (XW x0 s0 s1 e0 E A B G T t μ) H → va_S (OA (XL x0 s0 s1 e0 E A B G T μ) s.heap.size) s.heap H locs → W p l e (headSpec (ws_ yX4_lift cX4_lift 4 (some .int)) rx_X4_lift).room s m ([.ref (x0), .int a1, .int a2] : List Value).toArray below meth c H locs 0 0 (vx_MQ below (fun _ _ _ _ => False) (XM xE D (XW x0 s0 s1 e0 E A B G T t μ) (XL x0 s0 s1 e0 E A B G T μ) s.heap.size) ([.ref (x0), .int a1, .int a2] : List Value).toArray s 4 46 (OA (XL x0 s0 s1 e0 E A B G T μ) s.heap.size)) (F0 m 0 ls []) from K9 s.heap [] hP va_S.rf
  intro H locs hP hS
  have hSz : s.heap.size ≤ H.size := hS.1
  unfold f_X4_lift at h
  refine lv_aload_n hx hb dX4_lift_0 rfl (lv_at hl 0 rfl) ?_
  refine lv_iload_n hx hb dX4_lift_1 rfl (lv_at hl 1 rfl) ?_
  refine lv_iload_n hx hb dX4_lift_2 rfl (lv_at hl 2 rfl) ?_
  obtain ⟨r1o, er1, h⟩ := obind h
  rcases r1o with r1 | Er1
  · replace h := sumL h
    refine call_R (va_runV (As := [.int a1, .int a2]) (rest := []) ⟨hx, hb, hml, hown, hts⟩ (c_X4_requireCell l z0 D t x0 s0 s1 e0 E A B G T μ a1 a2 _ er1) (kV hts qw554 qw556 qs20 qw1 qw557 ok_X4_requireCell ⟨Nat.le_of_ble_eq_true rfl, Nat.le_of_ble_eq_true rfl⟩) ⟨PR.blind, va_recv hK hP (ci := 5) (q0 := 0) rfl rfl, fun U hU hW => ⟨rfl, by rw [hU]; exact (hC.at hS hZ).warm hW, by rw [hU]; exact hP⟩⟩ rfl rfl hl.1 rfl (lv_room (Nat.le_of_ble_eq_true rfl)) dX4_lift_3 ⟨Nat.le_of_ble_eq_true rfl, Nat.le_of_ble_eq_true rfl⟩) ?_
    refine lv_aload_n hx hb dX4_lift_6 rfl (lv_at hl 0 rfl) ?_
    refine va_get hx hb hts inX4 hown hK hP 0 rfl rfl 4 (by decide) (hts _ qw159) (fun _ h9 => h9) rfl dX4_lift_7 ?_
    refine lv_iload_n hx hb dX4_lift_10 rfl (lv_at hl 1 rfl) ?_
    refine lv_iload_n hx hb dX4_lift_11 rfl (lv_at hl 2 rfl) ?_
    obtain ⟨r2, er2, h⟩ := obind h
    refine call_R (va_runS (As := [.int a1, .int a2]) (rest := [.ref (G 0)]) ⟨hx, hb, hml, hown, hts⟩ (c_X4_cellAt l z0 D t a1 a2 _ er2) (kS hts qw578 qw229 qw1 qw230 ok_X4_cellAt ⟨Nat.le_of_ble_eq_true rfl, Nat.le_of_ble_eq_true rfl⟩) ⟨PR.blind, fun U hU hW => ⟨rfl, by rw [hU]; exact (hC.at hS hZ).warm hW, by rw [hU]; exact va_P_nil⟩⟩ rfl rfl hl.1 rfl (lv_room (Nat.le_of_ble_eq_true rfl)) dX4_lift_12 ⟨Nat.le_of_ble_eq_true rfl, Nat.le_of_ble_eq_true rfl⟩) ?_
    obtain ⟨r3, er3, h⟩ := obind h
    refine call_R (va_runV (As := [.long r2]) (rest := []) ⟨hx, hb, hml, hown, hts⟩ (c_X1_tripleOver l z0 D t G ((x_wide μ), (x_high μ), (x_pond μ), (x_walls μ), (x_paved μ), (x_tc μ), (x_flips μ), (x_refused μ), (x_names μ)) r2 _ er3) (kV hts qw636 qw637 qw638 qw8 qw639 ok_X1_tripleOver ⟨Nat.le_of_ble_eq_true rfl, Nat.le_of_ble_eq_true rfl⟩) ⟨PR.blind, va_recv hK (sub_X_G (μ := μ) hP) (ci := 2) (q0 := 0) rfl rfl, fun U hU hW => ⟨rfl, by rw [hU]; exact (hC.at hS hZ).warm hW, by rw [hU]; exact (sub_X_G (μ := μ) hP)⟩⟩ rfl rfl hl.1 rfl (lv_room (Nat.le_of_ble_eq_true rfl)) dX4_lift_15 ⟨Nat.le_of_ble_eq_true rfl, Nat.le_of_ble_eq_true rfl⟩) ?_
    refine lv_istore_n (lv' := [(3, .int r3), (0, .ref (x0)), (1, .int a1), (2, .int a2)]) hx hb dX4_lift_18 rfl hl (by decide) rfl (fun ls hl => ?_)
    refine lv_iload_n hx hb dX4_lift_19 rfl (lv_at hl 0 rfl) ?_
    refine lv_iconst (v := (-1)) hx hb dX4_lift_20 (by decide) ?_
    refine lv_icmp_ne (tgt := 34) hx hb dX4_lift_21 (by decide) (fun hc => ?_) (fun hc => ?_)
    · have h := iteF hc h
      refine lv_aload_n hx hb dX4_lift_34 rfl (lv_at hl 1 rfl) ?_
      obtain ⟨r4, er4, h⟩ := obind h
      refine call_S (va_runV (As := []) (rest := []) ⟨hx, hb, hml, hown, hts⟩ (c_X4_saveState l z0 D t x0 s0 s1 e0 E A B G T μ L S0 S1 H.size hRep hnL) (kV hts qw457 qw459 qs15 qw1 qw460 ok_X4_saveState ⟨Nat.le_of_ble_eq_true rfl, Nat.le_of_ble_eq_true rfl⟩) ⟨PM.blind, va_recv hK hP (ci := 5) (q0 := 0) rfl rfl, fun U hU hW => ⟨rfl, by rw [hU]; exact (hC.at hS hZ).warm hW, by rw [hU], by rw [hU]; exact hP, ⟨hD.1, fun _ _ h9 => Or.inl (in_map (L := (XL x0 s0 s1 e0 E A B G T μ)) rfl h9)⟩, fun q hq => hZ q (OA.ofD hD rfl hSz q hq)⟩⟩ rfl rfl hl.1 rfl (lv_room (Nat.le_of_ble_eq_true rfl)) dX4_lift_35 ⟨Nat.le_of_ble_eq_true rfl, Nat.le_of_ble_eq_true rfl⟩) hS (OA.ofD hD rfl hSz) (fun e1 T1 H locs hRp hP hD1 hS _ _ => ?_)
      have hP : va_P D vwCl (XW x0 s0 s1 e1 E A B G T1 t (svX μ)) H := hP
      rw [svX_eq er4] at hP hD1
      have hP : va_P D vwCl (XW x0 s0 s1 e1 E A B G T1 t (x_lsize' (x_lmod' μ r4.1) r4.2)) H := hP
      have hD : va_D (OA (XL x0 s0 s1 e0 E A B G T μ) s.heap.size) (XW x0 s0 s1 e1 E A B G T1 t (x_lsize' (x_lmod' μ r4.1) r4.2)) := hD1.weaken (fun _ q _ h9 => OA.ofD hD rfl hSz q.1 h9)
      have hSz : s.heap.size ≤ H.size := hS.1
      refine W.widen (k := 3) (n := 40) (by omega) (by omega) ?_
      refine lv_aload_n hx hb dX4_lift_38 rfl (lv_at hl 1 rfl) ?_
      refine va_get hx hb hts inX4 hown hK hP 0 rfl rfl 4 (by decide) (hts _ qw159) (fun _ h9 => h9) rfl dX4_lift_39 ?_
      refine lv_iload_n hx hb dX4_lift_42 rfl (lv_at hl 0 rfl) ?_
      obtain ⟨r5, er5, h⟩ := obind h
      refine call_M (va_runV (As := [.int r3]) (rest := []) ⟨hx, hb, hml, hown, hts⟩ (c_X1_takeTriple l z0 D t G ((x_wide μ), (x_high μ), (x_pond μ), (x_walls μ), (x_paved μ), (x_tc μ), (x_flips μ), (x_refused μ), (x_names μ)) r3 _ H.size er5) (kV hts qw658 qw659 qw660 qw8 qw661 ok_X1_takeTriple ⟨Nat.le_of_ble_eq_true rfl, Nat.le_of_ble_eq_true rfl⟩) ⟨PM.blind, va_recv hK (sub_X_G (μ := x_lsize' (x_lmod' μ r4.1) r4.2) hP) (ci := 2) (q0 := 0) rfl rfl, fun U hU hW => ⟨rfl, by rw [hU]; exact (hC.at hS hZ).warm hW, by rw [hU], by rw [hU]; exact (sub_X_G (μ := x_lsize' (x_lmod' μ r4.1) r4.2) hP), ⟨(subD_X_G (μ := x_lsize' (x_lmod' μ r4.1) r4.2) hD).1, fun _ _ h9 => Or.inl (in_map (L := (GL G)) rfl h9)⟩, fun q hq => hZ q (OA.ofD (subD_X_G (μ := x_lsize' (x_lmod' μ r4.1) r4.2) hD) rfl hSz q hq)⟩⟩ rfl rfl hl.1 rfl (lv_room (Nat.le_of_ble_eq_true rfl)) dX4_lift_43 ⟨Nat.le_of_ble_eq_true rfl, Nat.le_of_ble_eq_true rfl⟩) hS (OA.ofD (subD_X_G (μ := x_lsize' (x_lmod' μ r4.1) r4.2) hD) rfl hSz) (fun H locs hP1 hD1 hS _ hk1 => ?_)
      obtain ⟨hP, hD⟩ := back_X_G (μ := x_lsize' (x_lmod' μ r4.1) r4.2) hP hD hk1 hP1
      have hP : va_P D vwCl (XW x0 s0 s1 e1 E A B G T1 t (x_length μ, x_codes μ, x_rest μ, x_takes μ, x_u1 μ, x_u2 μ, x_hsz μ, x_hwin μ, x_hway μ, x_nsz μ, x_nwin μ, x_nway μ, x_wide μ, x_high μ, x_pond μ, x_walls μ, r5.1, r5.2.1, x_flips μ, x_refused μ, r5.2.2, x_sl μ, r4.1, r4.2)) H := hP
      have hD : va_D (OA (XL x0 s0 s1 e0 E A B G T μ) s.heap.size) (XW x0 s0 s1 e1 E A B G T1 t (x_length μ, x_codes μ, x_rest μ, x_takes μ, x_u1 μ, x_u2 μ, x_hsz μ, x_hwin μ, x_hway μ, x_nsz μ, x_nwin μ, x_nway μ, x_wide μ, x_high μ, x_pond μ, x_walls μ, r5.1, r5.2.1, x_flips μ, x_refused μ, r5.2.2, x_sl μ, r4.1, r4.2)) := hD
      have hSz : s.heap.size ≤ H.size := hS.1
      refine lv_iload_n hx hb dX4_lift_46 rfl (lv_at hl 0 rfl) ?_
      exact absurd (Option.some.inj h) (fun z => by cases z)
    · have h := iteT hc h
      obtain rfl := Sum.inr.inj (Option.some.inj h)
      obtain ⟨sa, hsa⟩ := hC.2.2.2.2.2.1 ("BentGardens", 121, "no triple covers the cell") (by decide +kernel)
      refine vx_throwS hx hb hl9 hown (cls := "java/lang/IllegalStateException") (names := ["java/lang/RuntimeException", "java/lang/Exception"]) (by decide) (by decide) (hts _ qw579) (hts _ qw12) hsa (at_words hts hC.2.1 at_IllegalStateException) ato_IllegalStateException (hC.2.2.2.2.2.2.2.1.narrow hZ) (hC.2.2.2.2.2.2.2.2.1.narrow hZ) hS (hl.1.trans hml.symm) dX4_lift_24 dX4_lift_27 dX4_lift_28 dX4_lift_30 dX4_lift_33 (fun x9 hx9 => (hT x9 hx9).elim) (Nat.le_of_ble_eq_true rfl) (Nat.le_of_ble_eq_true rfl) (Nat.le_of_ble_eq_true rfl) (Nat.le_of_ble_eq_true rfl) hlocks (fun t9 _ h8 h9 => XM.mk hP hD hS h8 h9) hS.2.2 (Nat.le_of_ble_eq_true rfl) (Nat.le_of_ble_eq_true rfl)
  · replace h := sumR h
    obtain rfl := Sum.inr.inj (Option.some.inj h)
    refine call_X (vx_runV (As := [.int a1, .int a2]) (rest := []) ⟨hx, hb, hml, hown, hts⟩ (x_X4_requireCell l hl9 z0 D t x0 s0 s1 e0 E A B G T μ a1 a2 _ H.size er1) (kV hts qw554 qw556 qs20 qw1 qw557 ok_X4_requireCell ⟨Nat.le_of_ble_eq_true rfl, Nat.le_of_ble_eq_true rfl⟩) ⟨PM.blind, va_recv hK hP (ci := 5) (q0 := 0) rfl rfl, fun U hU hW => ⟨rfl, by rw [hU]; exact (hC.at hS hZ).warm hW, by rw [hU], by rw [hU]; exact hP, ⟨hD.1, fun _ _ h9 => Or.inl (in_map (L := (XL x0 s0 s1 e0 E A B G T μ)) rfl h9)⟩, fun q hq => hZ q (OA.ofD hD rfl hSz q hq)⟩⟩ rfl rfl hl.1 rfl (lv_room (Nat.le_of_ble_eq_true rfl)) dX4_lift_3 ⟨Nat.le_of_ble_eq_true rfl, Nat.le_of_ble_eq_true rfl⟩) hS (OA.ofD hD rfl hSz) (fun H locs q9 ce9 hP1 hD1 hS hsz1 hk1 hce hcv hcc => ?_)
    have hP : va_P D vwCl (XW x0 s0 s1 e0 E A B G T t μ) H := hP1
    have hD : va_D (OA (XL x0 s0 s1 e0 E A B G T μ) s.heap.size) (XW x0 s0 s1 e0 E A B G T t μ) := hD1.weaken (fun _ q _ h9 => OA.ofD hD rfl hSz q.1 h9)
    exact vx_out (fun x9 hx9 => (hT x9 hx9).elim) hlocks hce hcv hcc (fun t9 h8 _ => XM.mk2 hP hD hS h8) hS.2.2 (Nat.le_of_ble_eq_true rfl) (Nat.le_of_ble_eq_true rfl)
