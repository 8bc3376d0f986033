abbrev rm_X4_clearBuffer : Room := { frames := 0, cells := 0, slots := 0, locals := 0 }
theorem ok_X4_clearBuffer : okY yX4_clearBuffer 0 := ⟨by decide +kernel, by decide +kernel, by decide +kernel⟩
set_option maxHeartbeats 4000000 in
set_option maxRecDepth 100000 in
theorem c_X4_clearBuffer (l : Launch) (z0 : Nat) (D : va_G) (t : Nat → ClassId) (x0 : Nat) (s0 : Nat) (s1 : Nat) (e0 : Nat) (E : Nat → Nat) (A : Nat → Nat) (B : Nat → Nat) (G : Nat → Nat) (T : va_W) (μ : XS) (res : Int32 × (Int32)) (sz : Nat) (h : f_X4_clearBuffer μ = some res) : Met l yX4_clearBuffer (ws_ yX4_clearBuffer cX4_clearBuffer 2 (some .int)) rm_X4_clearBuffer (PM z0 D t [.ref (x0)] (XW x0 s0 s1 e0 E A B G T t μ) (XL x0 s0 s1 e0 E A B G T μ) sz) (QM (some (.int res.1)) D (XW x0 s0 s1 e0 E A B G T t (x_length' μ res.2)) (XL x0 s0 s1 e0 E A B G T μ) sz) 0 0 (OA (XL x0 s0 s1 e0 E A B G T μ) sz) := by
  refine Met.ofW (cc := cX4_clearBuffer) (maxL := 2) (ret := (some .int)) (by decide) rfl ?_
  intro p e s m args below meth c s₁ Bo hml hv
  obtain ⟨rfl, hC, hsz, hP, hD, hZ⟩ := hv
  have hx := Bo.exec
  have hb := Bo.bytes
  have hr := Bo.returns
  have hts : ∀ w ∈ LA, w.before _ s = true := fun w hw => atoms_spec (ws := ws_ yX4_clearBuffer cX4_clearBuffer 2 (some .int)) Bo.pre w (List.mem_cons_of_mem _ hw)
  have hown : s.vm.findClass RX4 = some m.cls := findClass_of_methodNamed Bo.named
  have hlocks := Bo.notSynchronized
  have hK := hC.1
  subst hsz
  have hl := lv_entry ([.ref (x0)]) (n := 2) (Nat.le_of_ble_eq_true rfl)
  rw [lg_entry_eq]
  generalize (lg_sl ([.ref (x0)]) ++ List.replicate (2 - (lg_sl ([.ref (x0)])).length) Slot.unset).toArray = ls at hl ⊢
  have hl : lv_has ls 2 [(0, .ref (x0))] := hl
  suffices K9 : ∀ (H : Heap) (locs : List Loc), va_P D vwCl (XW x0 s0 s1 e0 E A B G T t μ) H → va_S (OA (XL x0 s0 s1 e0 E A B G T μ) s.heap.size) s.heap H locs → W p l e (headSpec (ws_ yX4_clearBuffer cX4_clearBuffer 2 (some .int)) rm_X4_clearBuffer).room s m ([.ref (x0)] : List Value).toArray below meth c H locs 0 0 (MQ below (QM (some (.int res.1)) D (XW x0 s0 s1 e0 E A B G T t (x_length' μ res.2)) (XL x0 s0 s1 e0 E A B G T μ) s.heap.size) ([.ref (x0)] : List Value).toArray s 0 0 (OA (XL x0 s0 s1 e0 E A B G T μ) s.heap.size)) (F0 m 0 ls []) from K9 s.heap [] hP va_S.rf
  intro H locs hP hS
  have hSz : s.heap.size ≤ H.size := hS.1
  unfold f_X4_clearBuffer at h
  refine lv_aload_n hx hb dX4_clearBuffer_0 rfl (lv_at hl 0 rfl) ?_
  refine va_get hx hb hts inX4 hown hK hP 0 rfl rfl 2 (by decide) (hts _ qw159) (fun _ h9 => h9) rfl dX4_clearBuffer_1 ?_
  refine va_get hx hb hts inX0 hown hK hP 2 rfl rfl 0 (by decide) (hts _ qw70) (fun _ h9 => h9) rfl dX4_clearBuffer_4 ?_
  obtain ⟨x1, ex1, h⟩ := jlet_some h
  refine topI ex1 ?_
  refine lv_istore_n (lv' := [(1, .int x1), (0, .ref (x0))]) hx hb dX4_clearBuffer_7 rfl hl (by decide) rfl (fun ls hl => ?_)
  refine lv_aload_n hx hb dX4_clearBuffer_8 rfl (lv_at hl 1 rfl) ?_
  refine va_get hx hb hts inX4 hown hK hP 0 rfl rfl 2 (by decide) (hts _ qw159) (fun _ h9 => h9) rfl dX4_clearBuffer_9 ?_
  refine lv_iconst (v := (0)) hx hb dX4_clearBuffer_12 (by decide) ?_
  refine va_put (D := D) (ci := 1) (v := .int (0 : Int32)) (ty := .int) hx hb hts inX0 tyX0 tyX0_ok nmX0 hown hK hP hD hS 2 rfl rfl 0 (by decide) (hts _ qw70) (fun _ h9 => h9) rfl (by decide +kernel) rfl rfl (Nat.le_of_ble_eq_true rfl) dX4_clearBuffer_13 (fun H locs hP hD hS => ?_)
  have hP : va_P D vwCl (XW x0 s0 s1 e0 E A B G T t (x_length' μ (0 : Int32))) H := hP
  have hD : va_D (OA (XL x0 s0 s1 e0 E A B G T μ) s.heap.size) (XW x0 s0 s1 e0 E A B G T t (x_length' μ (0 : Int32))) := hD
  have hSz : s.heap.size ≤ H.size := hS.1
  refine lv_iload_n hx hb dX4_clearBuffer_16 rfl (lv_at hl 0 rfl) ?_
  obtain rfl := Option.some.inj h
  exact W.iret hx hb hr (fun t ht hW => ⟨rfl, by rw [ht]; exact hP, hD, hS.F ht⟩) hS.2.2 dX4_clearBuffer_17

abbrev rm_X4_ways : Room := { frames := 4, cells := 0, slots := 0, locals := 117 }
theorem ok_X4_ways : okY yX4_ways 0 := ⟨by decide +kernel, by decide +kernel, by decide +kernel⟩
set_option maxHeartbeats 4000000 in
set_option maxRecDepth 100000 in
theorem c_X4_ways (l : Launch) (z0 : Nat) (D : va_G) (t : Nat → ClassId) (x0 : Nat) (s0 : Nat) (s1 : Nat) (e0 : Nat) (E : Nat → Nat) (A : Nat → Nat) (B : Nat → Nat) (G : Nat → Nat) (T : va_W) (μ : XS) (res : Int32 × (Nat → Int32) × (Nat → Nat) × (Nat → Nat) × (Int32) × (Nat → Int32) × (Nat → Int32) × (Int32) × (Nat → Int32) × (Nat → Int32)) (sz : Nat) (h : f_X4_ways μ = some res) : Met l yX4_ways (ws_ yX4_ways cX4_ways 1 (some .int)) rm_X4_ways (PM z0 D t [.ref (x0)] (XW x0 s0 s1 e0 E A B G T t μ) (XL x0 s0 s1 e0 E A B G T μ) sz) (QM (some (.int res.1)) D (XW x0 s0 s1 e0 E A B G T t (x_length μ, x_codes μ, x_rest μ, res.2.1, res.2.2.1, res.2.2.2.1, res.2.2.2.2.1, res.2.2.2.2.2.1, res.2.2.2.2.2.2.1, res.2.2.2.2.2.2.2.1, res.2.2.2.2.2.2.2.2.1, res.2.2.2.2.2.2.2.2.2, x_wide μ, x_high μ, x_pond μ, x_walls μ, x_paved μ, x_tc μ, x_flips μ, x_refused μ, x_names μ, x_sl μ, x_lmod μ, x_lsize μ)) (XL x0 s0 s1 e0 E A B G T μ) sz) 0 0 (OA (XL x0 s0 s1 e0 E A B G T μ) sz) := by
  refine Met.ofW (cc := cX4_ways) (maxL := 1) (ret := (some .int)) (by decide) rfl ?_
  intro p e s m args below meth c s₁ Bo hml hv
  obtain ⟨rfl, hC, hsz, hP, hD, hZ⟩ := hv
  have hx := Bo.exec
  have hb := Bo.bytes
  have hr := Bo.returns
  have hts : ∀ w ∈ LA, w.before _ s = true := fun w hw => atoms_spec (ws := ws_ yX4_ways cX4_ways 1 (some .int)) Bo.pre w (List.mem_cons_of_mem _ hw)
  have hown : s.vm.findClass RX4 = some m.cls := findClass_of_methodNamed Bo.named
  have hlocks := Bo.notSynchronized
  have hK := hC.1
  subst hsz
  have hl := lv_entry ([.ref (x0)]) (n := 1) (Nat.le_of_ble_eq_true rfl)
  rw [lg_entry_eq]
  generalize (lg_sl ([.ref (x0)]) ++ List.replicate (1 - (lg_sl ([.ref (x0)])).length) Slot.unset).toArray = ls at hl ⊢
  have hl : lv_has ls 1 [(0, .ref (x0))] := hl
  suffices K9 : ∀ (H : Heap) (locs : List Loc), va_P D vwCl (XW x0 s0 s1 e0 E A B G T t μ) H → va_S (OA (XL x0 s0 s1 e0 E A B G T μ) s.heap.size) s.heap H locs → W p l e (headSpec (ws_ yX4_ways cX4_ways 1 (some .int)) rm_X4_ways).room s m ([.ref (x0)] : List Value).toArray below meth c H locs 0 0 (MQ below (QM (some (.int res.1)) D (XW x0 s0 s1 e0 E A B G T t (x_length μ, x_codes μ, x_rest μ, res.2.1, res.2.2.1, res.2.2.2.1, res.2.2.2.2.1, res.2.2.2.2.2.1, res.2.2.2.2.2.2.1, res.2.2.2.2.2.2.2.1, res.2.2.2.2.2.2.2.2.1, res.2.2.2.2.2.2.2.2.2, x_wide μ, x_high μ, x_pond μ, x_walls μ, x_paved μ, x_tc μ, x_flips μ, x_refused μ, x_names μ, x_sl μ, x_lmod μ, x_lsize μ)) (XL x0 s0 s1 e0 E A B G T μ) s.heap.size) ([.ref (x0)] : List Value).toArray s 0 0 (OA (XL x0 s0 s1 e0 E A B G T μ) s.heap.size)) (F0 m 0 ls []) from K9 s.heap [] hP va_S.rf
  intro H locs hP hS
  have hSz : s.heap.size ≤ H.size := hS.1
  unfold f_X4_ways at h
  refine lv_aload_n hx hb dX4_ways_0 rfl (lv_at hl 0 rfl) ?_
  refine va_get hx hb hts inX4 hown hK hP 0 rfl rfl 3 (by decide) (hts _ qw160) (fun _ h9 => h9) rfl dX4_ways_1 ?_
  refine lv_aload_n hx hb dX4_ways_4 rfl (lv_at hl 0 rfl) ?_
  refine va_get hx hb hts inX4 hown hK hP 0 rfl rfl 4 (by decide) (hts _ qw161) (fun _ h9 => h9) rfl dX4_ways_5 ?_
  obtain ⟨r1, er1, h⟩ := obind h
  refine call_R (va_runV (As := []) (rest := [.ref (A 0)]) ⟨hx, hb, hml, hown, hts⟩ (c_X1_freeCells l z0 D t G ((x_wide μ), (x_high μ), (x_pond μ), (x_walls μ), (x_paved μ), (x_tc μ), (x_flips μ), (x_refused μ), (x_names μ)) _ er1) (kV hts qw242 qw243 qw244 qw8 qw245 ok_X1_freeCells ⟨Nat.le_of_ble_eq_true rfl, Nat.le_of_ble_eq_true rfl⟩) ⟨PR.blind, va_recv hK (sub_X_G (μ := μ) hP) (ci := 2) (q0 := 0) rfl rfl, fun U hU hW => ⟨rfl, by rw [hU]; exact (hC.at hS hZ).warm hW, by rw [hU]; exact (sub_X_G (μ := μ) hP)⟩⟩ rfl rfl hl.1 rfl (lv_room (Nat.le_of_ble_eq_true rfl)) dX4_ways_8 ⟨Nat.le_of_ble_eq_true rfl, Nat.le_of_ble_eq_true rfl⟩) ?_
  obtain ⟨r2, er2, h⟩ := obind h
  refine call_M (va_runV (As := [.long r1]) (rest := []) ⟨hx, hb, hml, hown, hts⟩ (c_X2_waysToPave l z0 D t A B ((x_rest μ), (x_takes μ), (x_u1 μ), (x_u2 μ), (x_hsz μ), (x_hwin μ), (x_hway μ), (x_nsz μ), (x_nwin μ), (x_nway μ)) r1 _ H.size er2) (kV hts qw255 qw256 qw257 qw6 qw258 ok_X2_waysToPave ⟨Nat.le_of_ble_eq_true rfl, Nat.le_of_ble_eq_true rfl⟩) ⟨PM.blind, va_recv hK (sub_X_V (μ := μ) hP) (ci := 3) (q0 := 0) rfl rfl, fun U hU hW => ⟨rfl, by rw [hU]; exact (hC.at hS hZ).warm hW, by rw [hU], by rw [hU]; exact (sub_X_V (μ := μ) hP), ⟨(subD_X_V (μ := μ) hD).1, fun _ _ h9 => Or.inl (in_map (L := (VL A B ((x_rest μ), (x_takes μ), (x_u1 μ), (x_u2 μ), (x_hsz μ), (x_hwin μ), (x_hway μ), (x_nsz μ), (x_nwin μ), (x_nway μ)))) rfl h9)⟩, fun q hq => hZ q (OA.ofD (subD_X_V (μ := μ) hD) rfl hSz q hq)⟩⟩ rfl rfl hl.1 rfl (lv_room (Nat.le_of_ble_eq_true rfl)) dX4_ways_11 ⟨Nat.le_of_ble_eq_true rfl, Nat.le_of_ble_eq_true rfl⟩) hS (OA.ofD (subD_X_V (μ := μ) hD) rfl hSz) (fun H locs hP1 hD1 hS _ hk1 => ?_)
  obtain ⟨hP, hD⟩ := back_X_V (μ := μ) hP hD hk1 (OA.ofD (subD_X_V (μ := μ) hD) rfl hSz) hP1 hD1
  have hP : va_P D vwCl (XW x0 s0 s1 e0 E A B G T t (x_length μ, x_codes μ, x_rest μ, r2.2.1, r2.2.2.1, r2.2.2.2.1, r2.2.2.2.2.1, r2.2.2.2.2.2.1, r2.2.2.2.2.2.2.1, r2.2.2.2.2.2.2.2.1, r2.2.2.2.2.2.2.2.2.1, r2.2.2.2.2.2.2.2.2.2, x_wide μ, x_high μ, x_pond μ, x_walls μ, x_paved μ, x_tc μ, x_flips μ, x_refused μ, x_names μ, x_sl μ, x_lmod μ, x_lsize μ)) H := hP
  have hD : va_D (OA (XL x0 s0 s1 e0 E A B G T μ) s.heap.size) (XW x0 s0 s1 e0 E A B G T t (x_length μ, x_codes μ, x_rest μ, r2.2.1, r2.2.2.1, r2.2.2.2.1, r2.2.2.2.2.1, r2.2.2.2.2.2.1, r2.2.2.2.2.2.2.1, r2.2.2.2.2.2.2.2.1, r2.2.2.2.2.2.2.2.2.1, r2.2.2.2.2.2.2.2.2.2, x_wide μ, x_high μ, x_pond μ, x_walls μ, x_paved μ, x_tc μ, x_flips μ, x_refused μ, x_names μ, x_sl μ, x_lmod μ, x_lsize μ)) := hD
  have hSz : s.heap.size ≤ H.size := hS.1
  obtain rfl := Option.some.inj h
  exact W.iret hx hb hr (fun t ht hW => ⟨rfl, by rw [ht]; exact hP, hD, hS.F ht⟩) hS.2.2 dX4_ways_14

abbrev rm_X4_lonely : Room := { frames := 5, cells := 0, slots := 0, locals := 137 }
theorem ok_X4_lonely : okY yX4_lonely 0 := ⟨by decide +kernel, by decide +kernel, by decide +kernel⟩
set_option maxHeartbeats 4000000 in
set_option maxRecDepth 100000 in
theorem c_X4_lonely (l : Launch) (z0 : Nat) (D : va_G) (t : Nat → ClassId) (x0 : Nat) (s0 : Nat) (s1 : Nat) (e0 : Nat) (E : Nat → Nat) (A : Nat → Nat) (B : Nat → Nat) (G : Nat → Nat) (T : va_W) (μ : XS) (res : Int32) (h : f_X4_lonely μ = some res) : Met l yX4_lonely (ws_ yX4_lonely cX4_lonely 2 (some .int)) rm_X4_lonely (PR z0 D t [.ref (x0)] (XW x0 s0 s1 e0 E A B G T t μ)) (QR (some (.int res))) 0 0 FN := by
  refine Met.ofW (cc := cX4_lonely) (maxL := 2) (ret := (some .int)) (by decide) rfl ?_
  intro p e s m args below meth c s₁ Bo hml hv
  obtain ⟨rfl, hC, hP⟩ := hv
  have hx := Bo.exec
  have hb := Bo.bytes
  have hr := Bo.returns
  have hts : ∀ w ∈ LA, w.before _ s = true := fun w hw => atoms_spec (ws := ws_ yX4_lonely cX4_lonely 2 (some .int)) Bo.pre w (List.mem_cons_of_mem _ hw)
  have hown : s.vm.findClass RX4 = some m.cls := findClass_of_methodNamed Bo.named
  have hlocks := Bo.notSynchronized
  have hK := hC.1
  have hl := lv_entry ([.ref (x0)]) (n := 2) (Nat.le_of_ble_eq_true rfl)
  rw [lg_entry_eq]
  generalize (lg_sl ([.ref (x0)]) ++ List.replicate (2 - (lg_sl ([.ref (x0)])).length) Slot.unset).toArray = ls at hl ⊢
  have hl : lv_has ls 2 [(0, .ref (x0))] := hl
  unfold f_X4_lonely at h
  refine lv_aload_n hx hb dX4_lonely_0 rfl (lv_at hl 0 rfl) ?_
  refine va_get hx hb hts inX4 hown hK hP 0 rfl rfl 4 (by decide) (hts _ qw161) (fun _ h9 => h9) rfl dX4_lonely_1 ?_
  refine lv_iconst (v := (0)) hx hb dX4_lonely_4 (by decide) ?_
  obtain ⟨r1, er1, h⟩ := obind h
  refine call_R (va_runV (As := [.int (0 : Int32)]) (rest := []) ⟨hx, hb, hml, hown, hts⟩ (c_X1_firstFreeWith l z0 D t G ((x_wide μ), (x_high μ), (x_pond μ), (x_walls μ), (x_paved μ), (x_tc μ), (x_flips μ), (x_refused μ), (x_names μ)) (0 : Int32) _ er1) (kV hts qw338 qw339 qw340 qw8 qw341 ok_X1_firstFreeWith ⟨Nat.le_of_ble_eq_true rfl, Nat.le_of_ble_eq_true rfl⟩) ⟨PR.blind, va_recv hK (sub_X_G (μ := μ) hP) (ci := 2) (q0 := 0) rfl rfl, fun U hU hW => ⟨rfl, by rw [hU]; exact hC.warm hW, by rw [hU]; exact (sub_X_G (μ := μ) hP)⟩⟩ rfl rfl hl.1 rfl (lv_room (Nat.le_of_ble_eq_true rfl)) dX4_lonely_5 ⟨Nat.le_of_ble_eq_true rfl, Nat.le_of_ble_eq_true rfl⟩) ?_
  refine lv_istore_n (lv' := [(1, .int r1), (0, .ref (x0))]) hx hb dX4_lonely_8 rfl hl (by decide) rfl (fun ls hl => ?_)
  refine lv_iload_n hx hb dX4_lonely_9 rfl (lv_at hl 0 rfl) ?_
  refine lv_iconst (v := (-1)) hx hb dX4_lonely_10 (by decide) ?_
  refine lv_icmp_ne (tgt := 18) hx hb dX4_lonely_11 (by decide) (fun hc => ?_) (fun hc => ?_)
  · have h := iteF hc h
    refine lv_iload_n hx hb dX4_lonely_18 rfl (lv_at hl 0 rfl) ?_
    obtain ⟨r2, er2, h⟩ := obind h
    refine call_R (va_runS (As := [.int r1]) (rest := []) ⟨hx, hb, hml, hown, hts⟩ (c_X4_cellName l z0 D t r1 _ er2) (kS hts qw367 qw368 qw1 qw369 ok_X4_cellName ⟨Nat.le_of_ble_eq_true rfl, Nat.le_of_ble_eq_true rfl⟩) ⟨PR.blind, fun U hU hW => ⟨rfl, by rw [hU]; exact hC.warm hW, by rw [hU]; exact va_P_nil⟩⟩ rfl rfl hl.1 rfl (lv_room (Nat.le_of_ble_eq_true rfl)) dX4_lonely_19 ⟨Nat.le_of_ble_eq_true rfl, Nat.le_of_ble_eq_true rfl⟩) ?_
    obtain rfl := Option.some.inj h
    exact W.iret hx hb hr (fun t ht hW => ⟨rfl, ht⟩) (fun q hq => absurd hq List.not_mem_nil) dX4_lonely_22
  · have h := iteT hc h
    refine lv_iconst (v := (-1)) hx hb dX4_lonely_14 (by decide) ?_
    refine lv_goto (tgt := 22) hx hb dX4_lonely_15 (by decide) ?_
    obtain rfl := Option.some.inj h
    exact W.iret hx hb hr (fun t ht hW => ⟨rfl, ht⟩) (fun q hq => absurd hq List.not_mem_nil) dX4_lonely_22

abbrev rm_X4_bestPond : Room := { frames := 5, cells := 0, slots := 0, locals := 135 }
theorem ok_X4_bestPond : okY yX4_bestPond 0 := ⟨by decide +kernel, by decide +kernel, by decide +kernel⟩
set_option maxHeartbeats 4000000 in
set_option maxRecDepth 100000 in
theorem c_X4_bestPond (l : Launch) (z0 : Nat) (D : va_G) (t : Nat → ClassId) (x0 : Nat) (s0 : Nat) (s1 : Nat) (e0 : Nat) (E : Nat → Nat) (A : Nat → Nat) (B : Nat → Nat) (G : Nat → Nat) (T : va_W) (μ : XS) (res : Int32 × (Nat → Nat → Int32) × (Nat → Int32) × (Nat → Nat) × (Nat → Nat) × (Int32) × (Nat → Int32) × (Nat → Int32) × (Int32) × (Nat → Int32) × (Nat → Int32)) (sz : Nat) (h : f_X4_bestPond μ = some res) : Met l yX4_bestPond (ws_ yX4_bestPond cX4_bestPond 2 (some .int)) rm_X4_bestPond (PM z0 D t [.ref (x0)] (XW x0 s0 s1 e0 E A B G T t μ) (XL x0 s0 s1 e0 E A B G T μ) sz) (QM (some (.int res.1)) D (XW x0 s0 s1 e0 E A B G T t (x_length μ, x_codes μ, res.2.1, res.2.2.1, res.2.2.2.1, res.2.2.2.2.1, res.2.2.2.2.2.1, res.2.2.2.2.2.2.1, res.2.2.2.2.2.2.2.1, res.2.2.2.2.2.2.2.2.1, res.2.2.2.2.2.2.2.2.2.1, res.2.2.2.2.2.2.2.2.2.2, x_wide μ, x_high μ, x_pond μ, x_walls μ, x_paved μ, x_tc μ, x_flips μ, x_refused μ, x_names μ, x_sl μ, x_lmod μ, x_lsize μ)) (XL x0 s0 s1 e0 E A B G T μ) sz) 0 0 (OA (XL x0 s0 s1 e0 E A B G T μ) sz) := by
  refine Met.ofW (cc := cX4_bestPond) (maxL := 2) (ret := (some .int)) (by decide) rfl ?_
  intro p e s m args below meth c s₁ Bo hml hv
  obtain ⟨rfl, hC, hsz, hP, hD, hZ⟩ := hv
  have hx := Bo.exec
  have hb := Bo.bytes
  have hr := Bo.returns
  have hts : ∀ w ∈ LA, w.before _ s = true := fun w hw => atoms_spec (ws := ws_ yX4_bestPond cX4_bestPond 2 (some .int)) Bo.pre w (List.mem_cons_of_mem _ hw)
  have hown : s.vm.findClass RX4 = some m.cls := findClass_of_methodNamed Bo.named
  have hlocks := Bo.notSynchronized
  have hK := hC.1
  subst hsz
  have hl := lv_entry ([.ref (x0)]) (n := 2) (Nat.le_of_ble_eq_true rfl)
  rw [lg_entry_eq]
  generalize (lg_sl ([.ref (x0)]) ++ List.replicate (2 - (lg_sl ([.ref (x0)])).length) Slot.unset).toArray = ls at hl ⊢
  have hl : lv_has ls 2 [(0, .ref (x0))] := hl
  suffices K9 : ∀ (H : Heap) (locs : List Loc), va_P D vwCl (XW x0 s0 s1 e0 E A B G T t μ) H → va_S (OA (XL x0 s0 s1 e0 E A B G T μ) s.heap.size) s.heap H locs → W p l e (headSpec (ws_ yX4_bestPond cX4_bestPond 2 (some .int)) rm_X4_bestPond).room s m ([.ref (x0)] : List Value).toArray below meth c H locs 0 0 (MQ below (QM (some (.int res.1)) D (XW x0 s0 s1 e0 E A B G T t (x_length μ, x_codes μ, res.2.1, res.2.2.1, res.2.2.2.1, res.2.2.2.2.1, res.2.2.2.2.2.1, res.2.2.2.2.2.2.1, res.2.2.2.2.2.2.2.1, res.2.2.2.2.2.2.2.2.1, res.2.2.2.2.2.2.2.2.2.1, res.2.2.2.2.2.2.2.2.2.2, x_wide μ, x_high μ, x_pond μ, x_walls μ, x_paved μ, x_tc μ, x_flips μ, x_refused μ, x_names μ, x_sl μ, x_lmod μ, x_lsize μ)) (XL x0 s0 s1 e0 E A B G T μ) s.heap.size) ([.ref (x0)] : List Value).toArray s 0 0 (OA (XL x0 s0 s1 e0 E A B G T μ) s.heap.size)) (F0 m 0 ls []) from K9 s.heap [] hP va_S.rf
  intro H locs hP hS
  have hSz : s.heap.size ≤ H.size := hS.1
  unfold f_X4_bestPond at h
  refine lv_aload_n hx hb dX4_bestPond_0 rfl (lv_at hl 0 rfl) ?_
  refine va_get hx hb hts inX4 hown hK hP 0 rfl rfl 3 (by decide) (hts _ qw160) (fun _ h9 => h9) rfl dX4_bestPond_1 ?_
  refine lv_aload_n hx hb dX4_bestPond_4 rfl (lv_at hl 0 rfl) ?_
  refine va_get hx hb hts inX4 hown hK hP 0 rfl rfl 4 (by decide) (hts _ qw161) (fun _ h9 => h9) rfl dX4_bestPond_5 ?_
  obtain ⟨r1, er1, h⟩ := obind h
  refine call_R (va_runV (As := []) (rest := [.ref (A 0)]) ⟨hx, hb, hml, hown, hts⟩ (c_X1_freeCells l z0 D t G ((x_wide μ), (x_high μ), (x_pond μ), (x_walls μ), (x_paved μ), (x_tc μ), (x_flips μ), (x_refused μ), (x_names μ)) _ er1) (kV hts qw242 qw243 qw244 qw8 qw245 ok_X1_freeCells ⟨Nat.le_of_ble_eq_true rfl, Nat.le_of_ble_eq_true rfl⟩) ⟨PR.blind, va_recv hK (sub_X_G (μ := μ) hP) (ci := 2) (q0 := 0) rfl rfl, fun U hU hW => ⟨rfl, by rw [hU]; exact (hC.at hS hZ).warm hW, by rw [hU]; exact (sub_X_G (μ := μ) hP)⟩⟩ rfl rfl hl.1 rfl (lv_room (Nat.le_of_ble_eq_true rfl)) dX4_bestPond_8 ⟨Nat.le_of_ble_eq_true rfl, Nat.le_of_ble_eq_true rfl⟩) ?_
  refine lv_aload_n hx hb dX4_bestPond_11 rfl (lv_at hl 0 rfl) ?_
  refine va_get hx hb hts inX4 hown hK hP 0 rfl rfl 4 (by decide) (hts _ qw161) (fun _ h9 => h9) rfl dX4_bestPond_12 ?_
  obtain ⟨r2, er2, h⟩ := obind h
  refine call_R (va_runV (As := []) (rest := [.long r1, .ref (A 0)]) ⟨hx, hb, hml, hown, hts⟩ (c_X1_pondCell l z0 D t G ((x_wide μ), (x_high μ), (x_pond μ), (x_walls μ), (x_paved μ), (x_tc μ), (x_flips μ), (x_refused μ), (x_names μ)) _ er2) (kV hts qw374 qw251 qw252 qw8 qw253 ok_X1_pondCell ⟨Nat.le_of_ble_eq_true rfl, Nat.le_of_ble_eq_true rfl⟩) ⟨PR.blind, va_recv hK (sub_X_G (μ := μ) hP) (ci := 2) (q0 := 0) rfl rfl, fun U hU hW => ⟨rfl, by rw [hU]; exact (hC.at hS hZ).warm hW, by rw [hU]; exact (sub_X_G (μ := μ) hP)⟩⟩ rfl rfl hl.1 rfl (lv_room (Nat.le_of_ble_eq_true rfl)) dX4_bestPond_15 ⟨Nat.le_of_ble_eq_true rfl, Nat.le_of_ble_eq_true rfl⟩) ?_
  refine lv_lor hx hb dX4_bestPond_18 ?_
  obtain ⟨r3, er3, h⟩ := obind h
  refine call_M (va_runV (As := [.long (r1 ||| r2)]) (rest := []) ⟨hx, hb, hml, hown, hts⟩ (c_X2_bestGap l z0 D t A B ((x_rest μ), (x_takes μ), (x_u1 μ), (x_u2 μ), (x_hsz μ), (x_hwin μ), (x_hway μ), (x_nsz μ), (x_nwin μ), (x_nway μ)) (r1 ||| r2) _ H.size er3) (kV hts qw375 qw376 qw377 qw6 qw378 ok_X2_bestGap ⟨Nat.le_of_ble_eq_true rfl, Nat.le_of_ble_eq_true rfl⟩) ⟨PM.blind, va_recv hK (sub_X_V (μ := μ) hP) (ci := 3) (q0 := 0) rfl rfl, fun U hU hW => ⟨rfl, by rw [hU]; exact (hC.at hS hZ).warm hW, by rw [hU], by rw [hU]; exact (sub_X_V (μ := μ) hP), ⟨(subD_X_V (μ := μ) hD).1, fun _ _ h9 => Or.inl (in_map (L := (VL A B ((x_rest μ), (x_takes μ), (x_u1 μ), (x_u2 μ), (x_hsz μ), (x_hwin μ), (x_hway μ), (x_nsz μ), (x_nwin μ), (x_nway μ)))) rfl h9)⟩, fun q hq => hZ q (OA.ofD (subD_X_V (μ := μ) hD) rfl hSz q hq)⟩⟩ rfl rfl hl.1 rfl (lv_room (Nat.le_of_ble_eq_true rfl)) dX4_bestPond_19 ⟨Nat.le_of_ble_eq_true rfl, Nat.le_of_ble_eq_true rfl⟩) hS (OA.ofD (subD_X_V (μ := μ) hD) rfl hSz) (fun H locs hP1 hD1 hS _ hk1 => ?_)
  obtain ⟨hP, hD⟩ := back_X_V (μ := μ) hP hD hk1 (OA.ofD (subD_X_V (μ := μ) hD) rfl hSz) hP1 hD1
  have hP : va_P D vwCl (XW x0 s0 s1 e0 E A B G T t (x_length μ, x_codes μ, r3.2.1, r3.2.2.1, r3.2.2.2.1, r3.2.2.2.2.1, r3.2.2.2.2.2.1, r3.2.2.2.2.2.2.1, r3.2.2.2.2.2.2.2.1, r3.2.2.2.2.2.2.2.2.1, r3.2.2.2.2.2.2.2.2.2.1, r3.2.2.2.2.2.2.2.2.2.2, x_wide μ, x_high μ, x_pond μ, x_walls μ, x_paved μ, x_tc μ, x_flips μ, x_refused μ, x_names μ, x_sl μ, x_lmod μ, x_lsize μ)) H := hP
  have hD : va_D (OA (XL x0 s0 s1 e0 E A B G T μ) s.heap.size) (XW x0 s0 s1 e0 E A B G T t (x_length μ, x_codes μ, r3.2.1, r3.2.2.1, r3.2.2.2.1, r3.2.2.2.2.1, r3.2.2.2.2.2.1, r3.2.2.2.2.2.2.1, r3.2.2.2.2.2.2.2.1, r3.2.2.2.2.2.2.2.2.1, r3.2.2.2.2.2.2.2.2.2.1, r3.2.2.2.2.2.2.2.2.2.2, x_wide μ, x_high μ, x_pond μ, x_walls μ, x_paved μ, x_tc μ, x_flips μ, x_refused μ, x_names μ, x_sl μ, x_lmod μ, x_lsize μ)) := hD
  have hSz : s.heap.size ≤ H.size := hS.1
  refine lv_istore_n (lv' := [(1, .int r3.1), (0, .ref (x0))]) hx hb dX4_bestPond_22 rfl hl (by decide) rfl (fun ls hl => ?_)
  refine lv_iload_n hx hb dX4_bestPond_23 rfl (lv_at hl 0 rfl) ?_
  refine lv_iconst (v := (-1)) hx hb dX4_bestPond_24 (by decide) ?_
  refine lv_icmp_ne (tgt := 32) hx hb dX4_bestPond_25 (by decide) (fun hc => ?_) (fun hc => ?_)
  · have h := iteF hc h
    refine lv_iload_n hx hb dX4_bestPond_32 rfl (lv_at hl 0 rfl) ?_
    obtain ⟨r4, er4, h⟩ := obind h
    refine call_R (va_runS (As := [.int r3.1]) (rest := []) ⟨hx, hb, hml, hown, hts⟩ (c_X4_cellName l z0 D t r3.1 _ er4) (kS hts qw367 qw368 qw1 qw369 ok_X4_cellName ⟨Nat.le_of_ble_eq_true rfl, Nat.le_of_ble_eq_true rfl⟩) ⟨PR.blind, fun U hU hW => ⟨rfl, by rw [hU]; exact (hC.at hS hZ).warm hW, by rw [hU]; exact va_P_nil⟩⟩ rfl rfl hl.1 rfl (lv_room (Nat.le_of_ble_eq_true rfl)) dX4_bestPond_33 ⟨Nat.le_of_ble_eq_true rfl, Nat.le_of_ble_eq_true rfl⟩) ?_
    obtain rfl := Option.some.inj h
    exact W.iret hx hb hr (fun t ht hW => ⟨rfl, by rw [ht]; exact hP, hD, hS.F ht⟩) hS.2.2 dX4_bestPond_36
  · have h := iteT hc h
    refine lv_iconst (v := (-1)) hx hb dX4_bestPond_28 (by decide) ?_
    refine lv_goto (tgt := 36) hx hb dX4_bestPond_29 (by decide) ?_
    obtain rfl := Option.some.inj h
    exact W.iret hx hb hr (fun t ht hW => ⟨rfl, by rw [ht]; exact hP, hD, hS.F ht⟩) hS.2.2 dX4_bestPond_36

abbrev rm_X4_pavedShare : Room := { frames := 3, cells := 0, slots := 0, locals := 86 }
theorem ok_X4_pavedShare : okY yX4_pavedShare 0 := ⟨by decide +kernel, by decide +kernel, by decide +kernel⟩
set_option maxHeartbeats 4000000 in
set_option maxRecDepth 100000 in
theorem c_X4_pavedShare (l : Launch) (z0 : Nat) (D : va_G) (t : Nat → ClassId) (x0 : Nat) (s0 : Nat) (s1 : Nat) (e0 : Nat) (E : Nat → Nat) (A : Nat → Nat) (B : Nat → Nat) (G : Nat → Nat) (T : va_W) (μ : XS) (res : UInt64) (h : f_X4_pavedShare μ = some res) : Met l yX4_pavedShare (ws_ yX4_pavedShare cX4_pavedShare 3 (some .double)) rm_X4_pavedShare (PR z0 D t [.ref (x0)] (XW x0 s0 s1 e0 E A B G T t μ)) (QR (some (.double res))) 0 0 FN := by
  refine Met.ofW (cc := cX4_pavedShare) (maxL := 3) (ret := (some .double)) (by decide) rfl ?_
  intro p e s m args below meth c s₁ Bo hml hv
  obtain ⟨rfl, hC, hP⟩ := hv
  have hx := Bo.exec
  have hb := Bo.bytes
  have hr := Bo.returns
  have hts : ∀ w ∈ LA, w.before _ s = true := fun w hw => atoms_spec (ws := ws_ yX4_pavedShare cX4_pavedShare 3 (some .double)) Bo.pre w (List.mem_cons_of_mem _ hw)
  have hown : s.vm.findClass RX4 = some m.cls := findClass_of_methodNamed Bo.named
  have hlocks := Bo.notSynchronized
  have hK := hC.1
  have hl := lv_entry ([.ref (x0)]) (n := 3) (Nat.le_of_ble_eq_true rfl)
  rw [lg_entry_eq]
  generalize (lg_sl ([.ref (x0)]) ++ List.replicate (3 - (lg_sl ([.ref (x0)])).length) Slot.unset).toArray = ls at hl ⊢
  have hl : lv_has ls 3 [(0, .ref (x0))] := hl
  unfold f_X4_pavedShare at h
  refine lv_aload_n hx hb dX4_pavedShare_0 rfl (lv_at hl 0 rfl) ?_
  refine va_get hx hb hts inX4 hown hK hP 0 rfl rfl 4 (by decide) (hts _ qw161) (fun _ h9 => h9) rfl dX4_pavedShare_1 ?_
  refine va_get hx hb hts inX1 hown hK hP 13 rfl rfl 4 (by decide) (hts _ qw130) (fun _ h9 => h9) rfl dX4_pavedShare_4 ?_
  obtain ⟨r1, er1, h⟩ := obind h
  refine call_R (va_runS (As := [.long (x_paved μ)]) (rest := []) ⟨hx, hb, hml, hown, hts⟩ (c_J13_bitCount_95d88 l z0 D t (x_paved μ) _ er1) (kS hts qw416 qw260 qw23 qw261 ok_J13_bitCount_95d88 ⟨Nat.le_of_ble_eq_true rfl, Nat.le_of_ble_eq_true rfl⟩) ⟨PR.blind, fun U hU hW => ⟨rfl, by rw [hU]; exact hC.warm hW, by rw [hU]; exact va_P_nil⟩⟩ rfl rfl hl.1 rfl (lv_room (Nat.le_of_ble_eq_true rfl)) dX4_pavedShare_7 ⟨Nat.le_of_ble_eq_true rfl, Nat.le_of_ble_eq_true rfl⟩) ?_
  refine lv_istore_n (lv' := [(1, .int r1), (0, .ref (x0))]) hx hb dX4_pavedShare_10 rfl hl (by decide) rfl (fun ls hl => ?_)
  refine lv_iload_n hx hb dX4_pavedShare_11 rfl (lv_at hl 0 rfl) ?_
  refine lv_aload_n hx hb dX4_pavedShare_12 rfl (lv_at hl 1 rfl) ?_
  refine va_get hx hb hts inX4 hown hK hP 0 rfl rfl 4 (by decide) (hts _ qw161) (fun _ h9 => h9) rfl dX4_pavedShare_13 ?_
  obtain ⟨r2, er2, h⟩ := obind h
  refine call_R (va_runV (As := []) (rest := [.int r1]) ⟨hx, hb, hml, hown, hts⟩ (c_X1_freeCells l z0 D t G ((x_wide μ), (x_high μ), (x_pond μ), (x_walls μ), (x_paved μ), (x_tc μ), (x_flips μ), (x_refused μ), (x_names μ)) _ er2) (kV hts qw242 qw243 qw244 qw8 qw245 ok_X1_freeCells ⟨Nat.le_of_ble_eq_true rfl, Nat.le_of_ble_eq_true rfl⟩) ⟨PR.blind, va_recv hK (sub_X_G (μ := μ) hP) (ci := 2) (q0 := 0) rfl rfl, fun U hU hW => ⟨rfl, by rw [hU]; exact hC.warm hW, by rw [hU]; exact (sub_X_G (μ := μ) hP)⟩⟩ rfl rfl hl.1 rfl (lv_room (Nat.le_of_ble_eq_true rfl)) dX4_pavedShare_16 ⟨Nat.le_of_ble_eq_true rfl, Nat.le_of_ble_eq_true rfl⟩) ?_
  obtain ⟨r3, er3, h⟩ := obind h
  refine call_R (va_runS (As := [.long r2]) (rest := [.int r1]) ⟨hx, hb, hml, hown, hts⟩ (c_J13_bitCount_95d88 l z0 D t r2 _ er3) (kS hts qw416 qw260 qw23 qw261 ok_J13_bitCount_95d88 ⟨Nat.le_of_ble_eq_true rfl, Nat.le_of_ble_eq_true rfl⟩) ⟨PR.blind, fun U hU hW => ⟨rfl, by rw [hU]; exact hC.warm hW, by rw [hU]; exact va_P_nil⟩⟩ rfl rfl hl.1 rfl (lv_room (Nat.le_of_ble_eq_true rfl)) dX4_pavedShare_19 ⟨Nat.le_of_ble_eq_true rfl, Nat.le_of_ble_eq_true rfl⟩) ?_
  refine lv_iadd hx hb dX4_pavedShare_22 ?_
  obtain ⟨x4, ex4, h⟩ := jlet_some h
  refine topI ex4 ?_
  refine lv_istore_n (lv' := [(2, .int x4), (1, .int r1), (0, .ref (x0))]) hx hb dX4_pavedShare_23 rfl hl (by decide) rfl (fun ls hl => ?_)
  refine lv_iload_n hx hb dX4_pavedShare_24 rfl (lv_at hl 0 rfl) ?_
  refine lv_if_ne (tgt := 32) hx hb dX4_pavedShare_25 (by decide) (fun hc => ?_) (fun hc => ?_)
  · have h := iteF hc h
    refine lv_iload_n hx hb dX4_pavedShare_32 rfl (lv_at hl 1 rfl) ?_
    refine lv_i2d hx hb dX4_pavedShare_33 ?_
    refine lv_iload_n hx hb dX4_pavedShare_34 rfl (lv_at hl 0 rfl) ?_
    refine lv_i2d hx hb dX4_pavedShare_35 ?_
    obtain ⟨d5, ed5, h⟩ := obind h
    refine lv_ddiv hx hb dX4_pavedShare_36 (dfin_some ed5).2 ?_
    refine topD (dfin_some ed5).1 ?_
    obtain rfl := Option.some.inj h
    exact W.dret hx hb hr (fun t ht hW => ⟨rfl, ht⟩) (fun q hq => absurd hq List.not_mem_nil) dX4_pavedShare_37
  · have h := iteT hc h
    refine lv_dconst1 hx hb dX4_pavedShare_28 ?_
    refine lv_goto (tgt := 37) hx hb dX4_pavedShare_29 (by decide) ?_
    obtain rfl := Option.some.inj h
    exact W.dret hx hb hr (fun t ht hW => ⟨rfl, ht⟩) (fun q hq => absurd hq List.not_mem_nil) dX4_pavedShare_37

abbrev rm_Jx4a65c_size_8abf5 : Room := { frames := 0, cells := 0, slots := 0, locals := 0 }
theorem ok_Jx4a65c_size_8abf5 : okY yJx4a65c_size_8abf5 0 := ⟨by decide +kernel, by decide +kernel, by decide +kernel⟩
set_option maxHeartbeats 4000000 in
set_option maxRecDepth 100000 in
theorem c_Jx4a65c_size_8abf5 (l : Launch) (z0 : Nat) (D : va_G) (t : Nat → ClassId) (s0 : Nat) (e0 : Nat) (μ : LSS) (res : Int32) (h : f_Jx4a65c_size_8abf5 μ = some res) : Met l yJx4a65c_size_8abf5 (ws_ yJx4a65c_size_8abf5 cJx4a65c_size_8abf5 1 (some .int)) rm_Jx4a65c_size_8abf5 (PR z0 D t [.ref (s0)] (LSW s0 e0 t μ)) (QR (some (.int res))) 0 0 FN := by
  refine Met.ofW (cc := cJx4a65c_size_8abf5) (maxL := 1) (ret := (some .int)) (by decide) rfl ?_
  intro p e s m args below meth c s₁ Bo hml hv
  obtain ⟨rfl, hC, hP⟩ := hv
  have hx := Bo.exec
  have hb := Bo.bytes
  have hr := Bo.returns
  have hts : ∀ w ∈ LA, w.before _ s = true := fun w hw => atoms_spec (ws := ws_ yJx4a65c_size_8abf5 cJx4a65c_size_8abf5 1 (some .int)) Bo.pre w (List.mem_cons_of_mem _ hw)
  have hown : s.vm.findClass RJx4a65c = some m.cls := findClass_of_methodNamed Bo.named
  have hlocks := Bo.notSynchronized
  have hK := hC.1
  have hl := lv_entry ([.ref (s0)]) (n := 1) (Nat.le_of_ble_eq_true rfl)
  rw [lg_entry_eq]
  generalize (lg_sl ([.ref (s0)]) ++ List.replicate (1 - (lg_sl ([.ref (s0)])).length) Slot.unset).toArray = ls at hl ⊢
  have hl : lv_has ls 1 [(0, .ref (s0))] := hl
  unfold f_Jx4a65c_size_8abf5 at h
  refine lv_aload_n hx hb dJx4a65c_size_8abf5_0 rfl (lv_at hl 0 rfl) ?_
  refine va_get hx hb hts inJx4a65c hown hK hP 0 rfl rfl 2 (by decide) (hts _ qw50) (fun _ h9 => h9) rfl dJx4a65c_size_8abf5_1 ?_
  obtain rfl := Option.some.inj h
  exact W.iret hx hb hr (fun t ht hW => ⟨rfl, ht⟩) (fun q hq => absurd hq List.not_mem_nil) dJx4a65c_size_8abf5_4

abbrev rm_X4_count : Room := { frames := 6, cells := 0, slots := 0, locals := 135 }
theorem ok_X4_count : okY yX4_count 1 := ⟨by decide +kernel, by decide +kernel, by decide +kernel⟩
set_option maxHeartbeats 4000000 in
set_option maxRecDepth 100000 in
theorem c_X4_count (l : Launch) (z0 : Nat) (D : va_G) (t : Nat → ClassId) (x0 : Nat) (s0 : Nat) (s1 : Nat) (e0 : Nat) (E : Nat → Nat) (A : Nat → Nat) (B : Nat → Nat) (G : Nat → Nat) (T : va_W) (μ : XS) (a1 : Int32) (res : Int32) (h : f_X4_count μ a1 = some (.inl res)) : Met l yX4_count (ws_ yX4_count cX4_count 2 (some .int)) rm_X4_count (PR z0 D t [.ref (x0), .int a1] (XW x0 s0 s1 e0 E A B G T t μ)) (QR (some (.int res))) 0 0 FN := by
  refine Met.ofW (cc := cX4_count) (maxL := 2) (ret := (some .int)) (by decide) rfl ?_
  intro p e s m args below meth c s₁ Bo hml hv
  obtain ⟨rfl, hC, hP⟩ := hv
  have hx := Bo.exec
  have hb := Bo.bytes
  have hr := Bo.returns
  have hts : ∀ w ∈ LA, w.before _ s = true := fun w hw => atoms_spec (ws := ws_ yX4_count cX4_count 2 (some .int)) Bo.pre w (List.mem_cons_of_mem _ hw)
  have hown : s.vm.findClass RX4 = some m.cls := findClass_of_methodNamed Bo.named
  have hlocks := Bo.notSynchronized
  have hK := hC.1
  have hl := lv_entry ([.ref (x0), .int a1]) (n := 2) (Nat.le_of_ble_eq_true rfl)
  rw [lg_entry_eq]
  generalize (lg_sl ([.ref (x0), .int a1]) ++ List.replicate (2 - (lg_sl ([.ref (x0), .int a1])).length) Slot.unset).toArray = ls at hl ⊢
  have hl : lv_has ls 2 [(0, .ref (x0)), (1, .int a1)] := hl
  unfold f_X4_count at h
  refine lv_iload_n hx hb dX4_count_0 rfl (lv_at hl 1 rfl) ?_
  by_cases hc0 : a1 = (0 : Int32)
  · have h := iteT hc0 h
    refine lv_tableIn (tgt := 64) hx hb dX4_count_1 (by rw [hc0]; decide) (by rw [hc0]; decide) (by rw [hc0]; rfl) (by decide) ?_
    refine lv_aload_n hx hb dX4_count_64 rfl (lv_at hl 0 rfl) ?_
    refine va_get hx hb hts inX4 hown hK hP 0 rfl rfl 4 (by decide) (hts _ qw161) (fun _ h9 => h9) rfl dX4_count_65 ?_
    refine va_get hx hb hts inX1 hown hK hP 13 rfl rfl 0 (by decide) (hts _ qw122) (fun _ h9 => h9) rfl dX4_count_68 ?_
    obtain rfl := Sum.inl.inj (Option.some.inj h)
    exact W.iret hx hb hr (fun t ht hW => ⟨rfl, ht⟩) (fun q hq => absurd hq List.not_mem_nil) dX4_count_71
  · have h := iteF hc0 h
    by_cases hc1 : a1 = (1 : Int32)
    · have h := iteT hc1 h
      refine lv_tableIn (tgt := 72) hx hb dX4_count_1 (by rw [hc1]; decide) (by rw [hc1]; decide) (by rw [hc1]; rfl) (by decide) ?_
      refine lv_aload_n hx hb dX4_count_72 rfl (lv_at hl 0 rfl) ?_
      refine va_get hx hb hts inX4 hown hK hP 0 rfl rfl 4 (by decide) (hts _ qw161) (fun _ h9 => h9) rfl dX4_count_73 ?_
      refine va_get hx hb hts inX1 hown hK hP 13 rfl rfl 1 (by decide) (hts _ qw124) (fun _ h9 => h9) rfl dX4_count_76 ?_
      obtain rfl := Sum.inl.inj (Option.some.inj h)
      exact W.iret hx hb hr (fun t ht hW => ⟨rfl, ht⟩) (fun q hq => absurd hq List.not_mem_nil) dX4_count_79
    · have h := iteF hc1 h
      by_cases hc2 : a1 = (2 : Int32)
      · have h := iteT hc2 h
        refine lv_tableIn (tgt := 80) hx hb dX4_count_1 (by rw [hc2]; decide) (by rw [hc2]; decide) (by rw [hc2]; rfl) (by decide) ?_
        refine lv_aload_n hx hb dX4_count_80 rfl (lv_at hl 0 rfl) ?_
        refine va_get hx hb hts inX4 hown hK hP 0 rfl rfl 4 (by decide) (hts _ qw161) (fun _ h9 => h9) rfl dX4_count_81 ?_
        refine va_get hx hb hts inX1 hown hK hP 13 rfl rfl 2 (by decide) (hts _ qw126) (fun _ h9 => h9) rfl dX4_count_84 ?_
        refine lv_bipush (v := (8)) hx hb dX4_count_87 (by decide) ?_
        refine lv_irem hx hb dX4_count_89 (by decide) ?_
        obtain rfl := Sum.inl.inj (Option.some.inj h)
        exact W.iret hx hb hr (fun t ht hW => ⟨rfl, ht⟩) (fun q hq => absurd hq List.not_mem_nil) dX4_count_90
      · have h := iteF hc2 h
        by_cases hc3 : a1 = (3 : Int32)
        · have h := iteT hc3 h
          refine lv_tableIn (tgt := 91) hx hb dX4_count_1 (by rw [hc3]; decide) (by rw [hc3]; decide) (by rw [hc3]; rfl) (by decide) ?_
          refine lv_aload_n hx hb dX4_count_91 rfl (lv_at hl 0 rfl) ?_
          refine va_get hx hb hts inX4 hown hK hP 0 rfl rfl 4 (by decide) (hts _ qw161) (fun _ h9 => h9) rfl dX4_count_92 ?_
          refine va_get hx hb hts inX1 hown hK hP 13 rfl rfl 2 (by decide) (hts _ qw126) (fun _ h9 => h9) rfl dX4_count_95 ?_
          refine lv_bipush (v := (8)) hx hb dX4_count_98 (by decide) ?_
          refine lv_idiv hx hb dX4_count_100 (by decide) ?_
          obtain rfl := Sum.inl.inj (Option.some.inj h)
          exact W.iret hx hb hr (fun t ht hW => ⟨rfl, ht⟩) (fun q hq => absurd hq List.not_mem_nil) dX4_count_101
        · have h := iteF hc3 h
          by_cases hc4 : a1 = (4 : Int32)
          · have h := iteT hc4 h
            refine lv_tableIn (tgt := 102) hx hb dX4_count_1 (by rw [hc4]; decide) (by rw [hc4]; decide) (by rw [hc4]; rfl) (by decide) ?_
            refine lv_aload_n hx hb dX4_count_102 rfl (lv_at hl 0 rfl) ?_
            refine va_get hx hb hts inX4 hown hK hP 0 rfl rfl 4 (by decide) (hts _ qw161) (fun _ h9 => h9) rfl dX4_count_103 ?_
            refine va_get hx hb hts inX1 hown hK hP 13 rfl rfl 3 (by decide) (hts _ qw128) (fun _ h9 => h9) rfl dX4_count_106 ?_
            obtain ⟨r1, er1, h⟩ := obind h
            refine call_R (va_runS (As := [.long (x_walls μ)]) (rest := []) ⟨hx, hb, hml, hown, hts⟩ (c_J13_bitCount_95d88 l z0 D t (x_walls μ) _ er1) (kS hts qw416 qw260 qw23 qw261 ok_J13_bitCount_95d88 ⟨Nat.le_of_ble_eq_true rfl, Nat.le_of_ble_eq_true rfl⟩) ⟨PR.blind, fun U hU hW => ⟨rfl, by rw [hU]; exact hC.warm hW, by rw [hU]; exact va_P_nil⟩⟩ rfl rfl hl.1 rfl (lv_room (Nat.le_of_ble_eq_true rfl)) dX4_count_109 ⟨Nat.le_of_ble_eq_true rfl, Nat.le_of_ble_eq_true rfl⟩) ?_
            obtain rfl := Sum.inl.inj (Option.some.inj h)
            exact W.iret hx hb hr (fun t ht hW => ⟨rfl, ht⟩) (fun q hq => absurd hq List.not_mem_nil) dX4_count_112
          · have h := iteF hc4 h
            by_cases hc5 : a1 = (5 : Int32)
            · have h := iteT hc5 h
              refine lv_tableIn (tgt := 113) hx hb dX4_count_1 (by rw [hc5]; decide) (by rw [hc5]; decide) (by rw [hc5]; rfl) (by decide) ?_
              refine lv_aload_n hx hb dX4_count_113 rfl (lv_at hl 0 rfl) ?_
              refine va_get hx hb hts inX4 hown hK hP 0 rfl rfl 4 (by decide) (hts _ qw161) (fun _ h9 => h9) rfl dX4_count_114 ?_
              refine va_get hx hb hts inX1 hown hK hP 13 rfl rfl 5 (by decide) (hts _ qw132) (fun _ h9 => h9) rfl dX4_count_117 ?_
              obtain rfl := Sum.inl.inj (Option.some.inj h)
              exact W.iret hx hb hr (fun t ht hW => ⟨rfl, ht⟩) (fun q hq => absurd hq List.not_mem_nil) dX4_count_120
            · have h := iteF hc5 h
              by_cases hc6 : a1 = (6 : Int32)
              · have h := iteT hc6 h
                refine lv_tableIn (tgt := 121) hx hb dX4_count_1 (by rw [hc6]; decide) (by rw [hc6]; decide) (by rw [hc6]; rfl) (by decide) ?_
                refine lv_aload_n hx hb dX4_count_121 rfl (lv_at hl 0 rfl) ?_
                refine va_get hx hb hts inX4 hown hK hP 0 rfl rfl 4 (by decide) (hts _ qw161) (fun _ h9 => h9) rfl dX4_count_122 ?_
                obtain ⟨r2, er2, h⟩ := obind h
                refine call_R (va_runV (As := []) (rest := []) ⟨hx, hb, hml, hown, hts⟩ (c_X1_freeCells l z0 D t G ((x_wide μ), (x_high μ), (x_pond μ), (x_walls μ), (x_paved μ), (x_tc μ), (x_flips μ), (x_refused μ), (x_names μ)) _ er2) (kV hts qw242 qw243 qw244 qw8 qw245 ok_X1_freeCells ⟨Nat.le_of_ble_eq_true rfl, Nat.le_of_ble_eq_true rfl⟩) ⟨PR.blind, va_recv hK (sub_X_G (μ := μ) hP) (ci := 2) (q0 := 0) rfl rfl, fun U hU hW => ⟨rfl, by rw [hU]; exact hC.warm hW, by rw [hU]; exact (sub_X_G (μ := μ) hP)⟩⟩ rfl rfl hl.1 rfl (lv_room (Nat.le_of_ble_eq_true rfl)) dX4_count_125 ⟨Nat.le_of_ble_eq_true rfl, Nat.le_of_ble_eq_true rfl⟩) ?_
                obtain ⟨r3, er3, h⟩ := obind h
                refine call_R (va_runS (As := [.long r2]) (rest := []) ⟨hx, hb, hml, hown, hts⟩ (c_J13_bitCount_95d88 l z0 D t r2 _ er3) (kS hts qw416 qw260 qw23 qw261 ok_J13_bitCount_95d88 ⟨Nat.le_of_ble_eq_true rfl, Nat.le_of_ble_eq_true rfl⟩) ⟨PR.blind, fun U hU hW => ⟨rfl, by rw [hU]; exact hC.warm hW, by rw [hU]; exact va_P_nil⟩⟩ rfl rfl hl.1 rfl (lv_room (Nat.le_of_ble_eq_true rfl)) dX4_count_128 ⟨Nat.le_of_ble_eq_true rfl, Nat.le_of_ble_eq_true rfl⟩) ?_
                obtain rfl := Sum.inl.inj (Option.some.inj h)
                exact W.iret hx hb hr (fun t ht hW => ⟨rfl, ht⟩) (fun q hq => absurd hq List.not_mem_nil) dX4_count_131
              · have h := iteF hc6 h
                by_cases hc7 : a1 = (7 : Int32)
                · have h := iteT hc7 h
                  refine lv_tableIn (tgt := 132) hx hb dX4_count_1 (by rw [hc7]; decide) (by rw [hc7]; decide) (by rw [hc7]; rfl) (by decide) ?_
                  refine lv_aload_n hx hb dX4_count_132 rfl (lv_at hl 0 rfl) ?_
                  refine va_get hx hb hts inX4 hown hK hP 0 rfl rfl 4 (by decide) (hts _ qw161) (fun _ h9 => h9) rfl dX4_count_133 ?_
                  obtain ⟨r4, er4, h⟩ := obind h
                  refine call_R (va_runV (As := []) (rest := []) ⟨hx, hb, hml, hown, hts⟩ (c_X1_layableTriples l z0 D t G ((x_wide μ), (x_high μ), (x_pond μ), (x_walls μ), (x_paved μ), (x_tc μ), (x_flips μ), (x_refused μ), (x_names μ)) _ er4) (kV hts qw426 qw427 qw428 qw8 qw429 ok_X1_layableTriples ⟨Nat.le_of_ble_eq_true rfl, Nat.le_of_ble_eq_true rfl⟩) ⟨PR.blind, va_recv hK (sub_X_G (μ := μ) hP) (ci := 2) (q0 := 0) rfl rfl, fun U hU hW => ⟨rfl, by rw [hU]; exact hC.warm hW, by rw [hU]; exact (sub_X_G (μ := μ) hP)⟩⟩ rfl rfl hl.1 rfl (lv_room (Nat.le_of_ble_eq_true rfl)) dX4_count_136 ⟨Nat.le_of_ble_eq_true rfl, Nat.le_of_ble_eq_true rfl⟩) ?_
                  obtain rfl := Sum.inl.inj (Option.some.inj h)
                  exact W.iret hx hb hr (fun t ht hW => ⟨rfl, ht⟩) (fun q hq => absurd hq List.not_mem_nil) dX4_count_139
                · have h := iteF hc7 h
                  by_cases hc8 : a1 = (8 : Int32)
                  · have h := iteT hc8 h
                    refine lv_tableIn (tgt := 140) hx hb dX4_count_1 (by rw [hc8]; decide) (by rw [hc8]; decide) (by rw [hc8]; rfl) (by decide) ?_
                    refine lv_aload_n hx hb dX4_count_140 rfl (lv_at hl 0 rfl) ?_
                    refine va_get hx hb hts inX4 hown hK hP 0 rfl rfl 4 (by decide) (hts _ qw161) (fun _ h9 => h9) rfl dX4_count_141 ?_
                    obtain ⟨r5, er5, h⟩ := obind h
                    refine call_R (va_runV (As := []) (rest := []) ⟨hx, hb, hml, hown, hts⟩ (c_X1_flippableBlocks l z0 D t G ((x_wide μ), (x_high μ), (x_pond μ), (x_walls μ), (x_paved μ), (x_tc μ), (x_flips μ), (x_refused μ), (x_names μ)) _ er5) (kV hts qw430 qw431 qw432 qw8 qw433 ok_X1_flippableBlocks ⟨Nat.le_of_ble_eq_true rfl, Nat.le_of_ble_eq_true rfl⟩) ⟨PR.blind, va_recv hK (sub_X_G (μ := μ) hP) (ci := 2) (q0 := 0) rfl rfl, fun U hU hW => ⟨rfl, by rw [hU]; exact hC.warm hW, by rw [hU]; exact (sub_X_G (μ := μ) hP)⟩⟩ rfl rfl hl.1 rfl (lv_room (Nat.le_of_ble_eq_true rfl)) dX4_count_144 ⟨Nat.le_of_ble_eq_true rfl, Nat.le_of_ble_eq_true rfl⟩) ?_
                    obtain rfl := Sum.inl.inj (Option.some.inj h)
                    exact W.iret hx hb hr (fun t ht hW => ⟨rfl, ht⟩) (fun q hq => absurd hq List.not_mem_nil) dX4_count_147
                  · have h := iteF hc8 h
                    by_cases hc9 : a1 = (9 : Int32)
                    · have h := iteT hc9 h
                      refine lv_tableIn (tgt := 148) hx hb dX4_count_1 (by rw [hc9]; decide) (by rw [hc9]; decide) (by rw [hc9]; rfl) (by decide) ?_
                      refine lv_aload_n hx hb dX4_count_148 rfl (lv_at hl 0 rfl) ?_
                      refine va_get hx hb hts inX4 hown hK hP 0 rfl rfl 4 (by decide) (hts _ qw161) (fun _ h9 => h9) rfl dX4_count_149 ?_
                      refine va_get hx hb hts inX1 hown hK hP 13 rfl rfl 6 (by decide) (hts _ qw134) (fun _ h9 => h9) rfl dX4_count_152 ?_
                      obtain rfl := Sum.inl.inj (Option.some.inj h)
                      exact W.iret hx hb hr (fun t ht hW => ⟨rfl, ht⟩) (fun q hq => absurd hq List.not_mem_nil) dX4_count_155
                    · have h := iteF hc9 h
                      by_cases hc10 : a1 = (10 : Int32)
                      · have h := iteT hc10 h
                        refine lv_tableIn (tgt := 156) hx hb dX4_count_1 (by rw [hc10]; decide) (by rw [hc10]; decide) (by rw [hc10]; rfl) (by decide) ?_
                        refine lv_aload_n hx hb dX4_count_156 rfl (lv_at hl 0 rfl) ?_
                        refine va_get hx hb hts inX4 hown hK hP 0 rfl rfl 4 (by decide) (hts _ qw161) (fun _ h9 => h9) rfl dX4_count_157 ?_
                        refine va_get hx hb hts inX1 hown hK hP 13 rfl rfl 7 (by decide) (hts _ qw136) (fun _ h9 => h9) rfl dX4_count_160 ?_
                        obtain rfl := Sum.inl.inj (Option.some.inj h)
                        exact W.iret hx hb hr (fun t ht hW => ⟨rfl, ht⟩) (fun q hq => absurd hq List.not_mem_nil) dX4_count_163
                      · have h := iteF hc10 h
                        by_cases hc11 : a1 = (11 : Int32)
                        · have h := iteT hc11 h
                          refine lv_tableIn (tgt := 164) hx hb dX4_count_1 (by rw [hc11]; decide) (by rw [hc11]; decide) (by rw [hc11]; rfl) (by decide) ?_
                          refine lv_aload_n hx hb dX4_count_164 rfl (lv_at hl 0 rfl) ?_
                          refine va_get hx hb hts inX4 hown hK hP 0 rfl rfl 0 (by decide) (hts _ qw157) (fun _ h9 => h9) rfl dX4_count_165 ?_
                          obtain ⟨r6, er6, h⟩ := obind h
                          refine call_R (va_runV (As := []) (rest := []) ⟨hx, hb, hml, hown, hts⟩ (c_Jx4a65c_size_8abf5 l z0 D t s0 e0 ((x_lmod μ), (x_lsize μ)) _ er6) (kV hts qw467 qw468 qw469 qw4 qw470 ok_Jx4a65c_size_8abf5 ⟨Nat.le_of_ble_eq_true rfl, Nat.le_of_ble_eq_true rfl⟩) ⟨PR.blind, va_recv hK (sub_X_LS (μ := μ) hP) (ci := 0) (q0 := 0) rfl rfl, fun U hU hW => ⟨rfl, by rw [hU]; exact hC.warm hW, by rw [hU]; exact (sub_X_LS (μ := μ) hP)⟩⟩ rfl rfl hl.1 rfl (lv_room (Nat.le_of_ble_eq_true rfl)) dX4_count_168 ⟨Nat.le_of_ble_eq_true rfl, Nat.le_of_ble_eq_true rfl⟩) ?_
                          obtain rfl := Sum.inl.inj (Option.some.inj h)
                          exact W.iret hx hb hr (fun t ht hW => ⟨rfl, ht⟩) (fun q hq => absurd hq List.not_mem_nil) dX4_count_171
                        · have h := iteF hc11 h
                          refine lv_tableOut (tgt := 172) hx hb dX4_count_1 (sw_out2 (n := 12) (by decide) (by decide) (by decide) (fun k9 hk9 => by rcases (show k9 = 0 ∨ k9 = 1 ∨ k9 = 2 ∨ k9 = 3 ∨ k9 = 4 ∨ k9 = 5 ∨ k9 = 6 ∨ k9 = 7 ∨ k9 = 8 ∨ k9 = 9 ∨ k9 = 10 ∨ k9 = 11 by omega) with rfl | rfl | rfl | rfl | rfl | rfl | rfl | rfl | rfl | rfl | rfl | rfl <;> assumption)) (by decide) ?_
                          exact absurd (Option.some.inj h) (fun z => by cases z)

abbrev rx_X4_count : Room := { frames := 6, cells := 1, slots := 6, locals := 135 }
set_option maxHeartbeats 4000000 in
set_option maxRecDepth 100000 in
theorem x_X4_count (l : Launch) (hl9 : l.stackTraces = false) (z0 : Nat) (D : va_G) (t : Nat → ClassId) (x0 : Nat) (s0 : Nat) (s1 : Nat) (e0 : Nat) (E : Nat → Nat) (A : Nat → Nat) (B : Nat → Nat) (G : Nat → Nat) (T : va_W) (μ : XS) (a1 : Int32) (xE : String) (sz : Nat) (h : f_X4_count μ a1 = some (.inr xE)) : vx_Met l yX4_count (ws_ yX4_count cX4_count 2 (some .int)) rx_X4_count (PM z0 D t [.ref (x0), .int a1] (XW x0 s0 s1 e0 E A B G T t μ) (XL x0 s0 s1 e0 E A B G T μ) sz) (fun _ _ _ _ => False) (XM xE D (XW x0 s0 s1 e0 E A B G T t μ) (XL x0 s0 s1 e0 E A B G T μ) sz) 1 6 (OA (XL x0 s0 s1 e0 E A B G T μ) sz) := by
  refine vx_ofW (cc := cX4_count) (maxL := 2) (ret := (some .int)) (by decide) rfl ?_
  intro p e s m args below meth c s₁ Bo hml hT hv
  obtain ⟨rfl, hC, hsz, hP, hD, hZ⟩ := hv
  have hx := Bo.exec
  have hb := Bo.bytes
  have hr := Bo.returns
  have hts : ∀ w ∈ LA, w.before _ s = true := fun w hw => atoms_spec (ws := ws_ yX4_count cX4_count 2 (some .int)) Bo.pre w (List.mem_cons_of_mem _ hw)
  have hown : s.vm.findClass RX4 = some m.cls := findClass_of_methodNamed Bo.named
  have hlocks := Bo.notSynchronized
  have hK := hC.1
  subst hsz
  have hl := lv_entry ([.ref (x0), .int a1]) (n := 2) (Nat.le_of_ble_eq_true rfl)
  rw [lg_entry_eq]
  generalize (lg_sl ([.ref (x0), .int a1]) ++ List.replicate (2 - (lg_sl ([.ref (x0), .int a1])).length) Slot.unset).toArray = ls at hl ⊢
  have hl : lv_has ls 2 [(0, .ref (x0)), (1, .int a1)] := hl
  suffices K9 : ∀ (H : Heap) (locs : List Loc), va_P D vwCl (XW x0 s0 s1 e0 E A B G T t μ) H → va_S (OA (XL x0 s0 s1 e0 E A B G T μ) s.heap.size) s.heap H locs → W p l e (headSpec (ws_ yX4_count cX4_count 2 (some .int)) rx_X4_count).room s m ([.ref (x0), .int a1] : List Value).toArray below meth c H locs 0 0 (vx_MQ below (fun _ _ _ _ => False) (XM xE D (XW x0 s0 s1 e0 E A B G T t μ) (XL x0 s0 s1 e0 E A B G T μ) s.heap.size) ([.ref (x0), .int a1] : List Value).toArray s 1 6 (OA (XL x0 s0 s1 e0 E A B G T μ) s.heap.size)) (F0 m 0 ls []) from K9 s.heap [] hP va_S.rf
  intro H locs hP hS
  have hSz : s.heap.size ≤ H.size := hS.1
  unfold f_X4_count at h
  refine lv_iload_n hx hb dX4_count_0 rfl (lv_at hl 1 rfl) ?_
  by_cases hc0 : a1 = (0 : Int32)
  · have h := iteT hc0 h
    refine lv_tableIn (tgt := 64) hx hb dX4_count_1 (by rw [hc0]; decide) (by rw [hc0]; decide) (by rw [hc0]; rfl) (by decide) ?_
    refine lv_aload_n hx hb dX4_count_64 rfl (lv_at hl 0 rfl) ?_
    refine va_get hx hb hts inX4 hown hK hP 0 rfl rfl 4 (by decide) (hts _ qw161) (fun _ h9 => h9) rfl dX4_count_65 ?_
    refine va_get hx hb hts inX1 hown hK hP 13 rfl rfl 0 (by decide) (hts _ qw122) (fun _ h9 => h9) rfl dX4_count_68 ?_
    exact absurd (Option.some.inj h) (fun z => by cases z)
  · have h := iteF hc0 h
    by_cases hc1 : a1 = (1 : Int32)
    · have h := iteT hc1 h
      refine lv_tableIn (tgt := 72) hx hb dX4_count_1 (by rw [hc1]; decide) (by rw [hc1]; decide) (by rw [hc1]; rfl) (by decide) ?_
      refine lv_aload_n hx hb dX4_count_72 rfl (lv_at hl 0 rfl) ?_
      refine va_get hx hb hts inX4 hown hK hP 0 rfl rfl 4 (by decide) (hts _ qw161) (fun _ h9 => h9) rfl dX4_count_73 ?_
      refine va_get hx hb hts inX1 hown hK hP 13 rfl rfl 1 (by decide) (hts _ qw124) (fun _ h9 => h9) rfl dX4_count_76 ?_
      exact absurd (Option.some.inj h) (fun z => by cases z)
    · have h := iteF hc1 h
      by_cases hc2 : a1 = (2 : Int32)
      · have h := iteT hc2 h
        refine lv_tableIn (tgt := 80) hx hb dX4_count_1 (by rw [hc2]; decide) (by rw [hc2]; decide) (by rw [hc2]; rfl) (by decide) ?_
        refine lv_aload_n hx hb dX4_count_80 rfl (lv_at hl 0 rfl) ?_
        refine va_get hx hb hts inX4 hown hK hP 0 rfl rfl 4 (by decide) (hts _ qw161) (fun _ h9 => h9) rfl dX4_count_81 ?_
        refine va_get hx hb hts inX1 hown hK hP 13 rfl rfl 2 (by decide) (hts _ qw126) (fun _ h9 => h9) rfl dX4_count_84 ?_
        refine lv_bipush (v := (8)) hx hb dX4_count_87 (by decide) ?_
        refine lv_irem hx hb dX4_count_89 (by decide) ?_
        exact absurd (Option.some.inj h) (fun z => by cases z)
      · have h := iteF hc2 h
        by_cases hc3 : a1 = (3 : Int32)
        · have h := iteT hc3 h
          refine lv_tableIn (tgt := 91) hx hb dX4_count_1 (by rw [hc3]; decide) (by rw [hc3]; decide) (by rw [hc3]; rfl) (by decide) ?_
          refine lv_aload_n hx hb dX4_count_91 rfl (lv_at hl 0 rfl) ?_
          refine va_get hx hb hts inX4 hown hK hP 0 rfl rfl 4 (by decide) (hts _ qw161) (fun _ h9 => h9) rfl dX4_count_92 ?_
          refine va_get hx hb hts inX1 hown hK hP 13 rfl rfl 2 (by decide) (hts _ qw126) (fun _ h9 => h9) rfl dX4_count_95 ?_
          refine lv_bipush (v := (8)) hx hb dX4_count_98 (by decide) ?_
          refine lv_idiv hx hb dX4_count_100 (by decide) ?_
          exact absurd (Option.some.inj h) (fun z => by cases z)
        · have h := iteF hc3 h
          by_cases hc4 : a1 = (4 : Int32)
          · have h := iteT hc4 h
            refine lv_tableIn (tgt := 102) hx hb dX4_count_1 (by rw [hc4]; decide) (by rw [hc4]; decide) (by rw [hc4]; rfl) (by decide) ?_
            refine lv_aload_n hx hb dX4_count_102 rfl (lv_at hl 0 rfl) ?_
            refine va_get hx hb hts inX4 hown hK hP 0 rfl rfl 4 (by decide) (hts _ qw161) (fun _ h9 => h9) rfl dX4_count_103 ?_
            refine va_get hx hb hts inX1 hown hK hP 13 rfl rfl 3 (by decide) (hts _ qw128) (fun _ h9 => h9) rfl dX4_count_106 ?_
            obtain ⟨r1, er1, h⟩ := obind h
            refine call_R (va_runS (As := [.long (x_walls μ)]) (rest := []) ⟨hx, hb, hml, hown, hts⟩ (c_J13_bitCount_95d88 l z0 D t (x_walls μ) _ er1) (kS hts qw416 qw260 qw23 qw261 ok_J13_bitCount_95d88 ⟨Nat.le_of_ble_eq_true rfl, Nat.le_of_ble_eq_true rfl⟩) ⟨PR.blind, fun U hU hW => ⟨rfl, by rw [hU]; exact (hC.at hS hZ).warm hW, by rw [hU]; exact va_P_nil⟩⟩ rfl rfl hl.1 rfl (lv_room (Nat.le_of_ble_eq_true rfl)) dX4_count_109 ⟨Nat.le_of_ble_eq_true rfl, Nat.le_of_ble_eq_true rfl⟩) ?_
            exact absurd (Option.some.inj h) (fun z => by cases z)
          · have h := iteF hc4 h
            by_cases hc5 : a1 = (5 : Int32)
            · have h := iteT hc5 h
              refine lv_tableIn (tgt := 113) hx hb dX4_count_1 (by rw [hc5]; decide) (by rw [hc5]; decide) (by rw [hc5]; rfl) (by decide) ?_
              refine lv_aload_n hx hb dX4_count_113 rfl (lv_at hl 0 rfl) ?_
              refine va_get hx hb hts inX4 hown hK hP 0 rfl rfl 4 (by decide) (hts _ qw161) (fun _ h9 => h9) rfl dX4_count_114 ?_
              refine va_get hx hb hts inX1 hown hK hP 13 rfl rfl 5 (by decide) (hts _ qw132) (fun _ h9 => h9) rfl dX4_count_117 ?_
              exact absurd (Option.some.inj h) (fun z => by cases z)
            · have h := iteF hc5 h
              by_cases hc6 : a1 = (6 : Int32)
              · have h := iteT hc6 h
                refine lv_tableIn (tgt := 121) hx hb dX4_count_1 (by rw [hc6]; decide) (by rw [hc6]; decide) (by rw [hc6]; rfl) (by decide) ?_
                refine lv_aload_n hx hb dX4_count_121 rfl (lv_at hl 0 rfl) ?_
                refine va_get hx hb hts inX4 hown hK hP 0 rfl rfl 4 (by decide) (hts _ qw161) (fun _ h9 => h9) rfl dX4_count_122 ?_
                obtain ⟨r2, er2, h⟩ := obind h
                refine call_R (va_runV (As := []) (rest := []) ⟨hx, hb, hml, hown, hts⟩ (c_X1_freeCells l z0 D t G ((x_wide μ), (x_high μ), (x_pond μ), (x_walls μ), (x_paved μ), (x_tc μ), (x_flips μ), (x_refused μ), (x_names μ)) _ er2) (kV hts qw242 qw243 qw244 qw8 qw245 ok_X1_freeCells ⟨Nat.le_of_ble_eq_true rfl, Nat.le_of_ble_eq_true rfl⟩) ⟨PR.blind, va_recv hK (sub_X_G (μ := μ) hP) (ci := 2) (q0 := 0) rfl rfl, fun U hU hW => ⟨rfl, by rw [hU]; exact (hC.at hS hZ).warm hW, by rw [hU]; exact (sub_X_G (μ := μ) hP)⟩⟩ rfl rfl hl.1 rfl (lv_room (Nat.le_of_ble_eq_true rfl)) dX4_count_125 ⟨Nat.le_of_ble_eq_true rfl, Nat.le_of_ble_eq_true rfl⟩) ?_
                obtain ⟨r3, er3, h⟩ := obind h
                refine call_R (va_runS (As := [.long r2]) (rest := []) ⟨hx, hb, hml, hown, hts⟩ (c_J13_bitCount_95d88 l z0 D t r2 _ er3) (kS hts qw416 qw260 qw23 qw261 ok_J13_bitCount_95d88 ⟨Nat.le_of_ble_eq_true rfl, Nat.le_of_ble_eq_true rfl⟩) ⟨PR.blind, fun U hU hW => ⟨rfl, by rw [hU]; exact (hC.at hS hZ).warm hW, by rw [hU]; exact va_P_nil⟩⟩ rfl rfl hl.1 rfl (lv_room (Nat.le_of_ble_eq_true rfl)) dX4_count_128 ⟨Nat.le_of_ble_eq_true rfl, Nat.le_of_ble_eq_true rfl⟩) ?_
                exact absurd (Option.some.inj h) (fun z => by cases z)
              · have h := iteF hc6 h
                by_cases hc7 : a1 = (7 : Int32)
                · have h := iteT hc7 h
                  refine lv_tableIn (tgt := 132) hx hb dX4_count_1 (by rw [hc7]; decide) (by rw [hc7]; decide) (by rw [hc7]; rfl) (by decide) ?_
                  refine lv_aload_n hx hb dX4_count_132 rfl (lv_at hl 0 rfl) ?_
                  refine va_get hx hb hts inX4 hown hK hP 0 rfl rfl 4 (by decide) (hts _ qw161) (fun _ h9 => h9) rfl dX4_count_133 ?_
                  obtain ⟨r4, er4, h⟩ := obind h
                  refine call_R (va_runV (As := []) (rest := []) ⟨hx, hb, hml, hown, hts⟩ (c_X1_layableTriples l z0 D t G ((x_wide μ), (x_high μ), (x_pond μ), (x_walls μ), (x_paved μ), (x_tc μ), (x_flips μ), (x_refused μ), (x_names μ)) _ er4) (kV hts qw426 qw427 qw428 qw8 qw429 ok_X1_layableTriples ⟨Nat.le_of_ble_eq_true rfl, Nat.le_of_ble_eq_true rfl⟩) ⟨PR.blind, va_recv hK (sub_X_G (μ := μ) hP) (ci := 2) (q0 := 0) rfl rfl, fun U hU hW => ⟨rfl, by rw [hU]; exact (hC.at hS hZ).warm hW, by rw [hU]; exact (sub_X_G (μ := μ) hP)⟩⟩ rfl rfl hl.1 rfl (lv_room (Nat.le_of_ble_eq_true rfl)) dX4_count_136 ⟨Nat.le_of_ble_eq_true rfl, Nat.le_of_ble_eq_true rfl⟩) ?_
                  exact absurd (Option.some.inj h) (fun z => by cases z)
                · have h := iteF hc7 h
                  by_cases hc8 : a1 = (8 : Int32)
                  · have h := iteT hc8 h
                    refine lv_tableIn (tgt := 140) hx hb dX4_count_1 (by rw [hc8]; decide) (by rw [hc8]; decide) (by rw [hc8]; rfl) (by decide) ?_
                    refine lv_aload_n hx hb dX4_count_140 rfl (lv_at hl 0 rfl) ?_
                    refine va_get hx hb hts inX4 hown hK hP 0 rfl rfl 4 (by decide) (hts _ qw161) (fun _ h9 => h9) rfl dX4_count_141 ?_
                    obtain ⟨r5, er5, h⟩ := obind h
                    refine call_R (va_runV (As := []) (rest := []) ⟨hx, hb, hml, hown, hts⟩ (c_X1_flippableBlocks l z0 D t G ((x_wide μ), (x_high μ), (x_pond μ), (x_walls μ), (x_paved μ), (x_tc μ), (x_flips μ), (x_refused μ), (x_names μ)) _ er5) (kV hts qw430 qw431 qw432 qw8 qw433 ok_X1_flippableBlocks ⟨Nat.le_of_ble_eq_true rfl, Nat.le_of_ble_eq_true rfl⟩) ⟨PR.blind, va_recv hK (sub_X_G (μ := μ) hP) (ci := 2) (q0 := 0) rfl rfl, fun U hU hW => ⟨rfl, by rw [hU]; exact (hC.at hS hZ).warm hW, by rw [hU]; exact (sub_X_G (μ := μ) hP)⟩⟩ rfl rfl hl.1 rfl (lv_room (Nat.le_of_ble_eq_true rfl)) dX4_count_144 ⟨Nat.le_of_ble_eq_true rfl, Nat.le_of_ble_eq_true rfl⟩) ?_
                    exact absurd (Option.some.inj h) (fun z => by cases z)
                  · have h := iteF hc8 h
                    by_cases hc9 : a1 = (9 : Int32)
                    · have h := iteT hc9 h
                      refine lv_tableIn (tgt := 148) hx hb dX4_count_1 (by rw [hc9]; decide) (by rw [hc9]; decide) (by rw [hc9]; rfl) (by decide) ?_
                      refine lv_aload_n hx hb dX4_count_148 rfl (lv_at hl 0 rfl) ?_
                      refine va_get hx hb hts inX4 hown hK hP 0 rfl rfl 4 (by decide) (hts _ qw161) (fun _ h9 => h9) rfl dX4_count_149 ?_
                      refine va_get hx hb hts inX1 hown hK hP 13 rfl rfl 6 (by decide) (hts _ qw134) (fun _ h9 => h9) rfl dX4_count_152 ?_
                      exact absurd (Option.some.inj h) (fun z => by cases z)
                    · have h := iteF hc9 h
                      by_cases hc10 : a1 = (10 : Int32)
                      · have h := iteT hc10 h
                        refine lv_tableIn (tgt := 156) hx hb dX4_count_1 (by rw [hc10]; decide) (by rw [hc10]; decide) (by rw [hc10]; rfl) (by decide) ?_
                        refine lv_aload_n hx hb dX4_count_156 rfl (lv_at hl 0 rfl) ?_
                        refine va_get hx hb hts inX4 hown hK hP 0 rfl rfl 4 (by decide) (hts _ qw161) (fun _ h9 => h9) rfl dX4_count_157 ?_
                        refine va_get hx hb hts inX1 hown hK hP 13 rfl rfl 7 (by decide) (hts _ qw136) (fun _ h9 => h9) rfl dX4_count_160 ?_
                        exact absurd (Option.some.inj h) (fun z => by cases z)
                      · have h := iteF hc10 h
                        by_cases hc11 : a1 = (11 : Int32)
                        · have h := iteT hc11 h
                          refine lv_tableIn (tgt := 164) hx hb dX4_count_1 (by rw [hc11]; decide) (by rw [hc11]; decide) (by rw [hc11]; rfl) (by decide) ?_
                          refine lv_aload_n hx hb dX4_count_164 rfl (lv_at hl 0 rfl) ?_
                          refine va_get hx hb hts inX4 hown hK hP 0 rfl rfl 0 (by decide) (hts _ qw157) (fun _ h9 => h9) rfl dX4_count_165 ?_
                          obtain ⟨r6, er6, h⟩ := obind h
                          refine call_R (va_runV (As := []) (rest := []) ⟨hx, hb, hml, hown, hts⟩ (c_Jx4a65c_size_8abf5 l z0 D t s0 e0 ((x_lmod μ), (x_lsize μ)) _ er6) (kV hts qw467 qw468 qw469 qw4 qw470 ok_Jx4a65c_size_8abf5 ⟨Nat.le_of_ble_eq_true rfl, Nat.le_of_ble_eq_true rfl⟩) ⟨PR.blind, va_recv hK (sub_X_LS (μ := μ) hP) (ci := 0) (q0 := 0) rfl rfl, fun U hU hW => ⟨rfl, by rw [hU]; exact (hC.at hS hZ).warm hW, by rw [hU]; exact (sub_X_LS (μ := μ) hP)⟩⟩ rfl rfl hl.1 rfl (lv_room (Nat.le_of_ble_eq_true rfl)) dX4_count_168 ⟨Nat.le_of_ble_eq_true rfl, Nat.le_of_ble_eq_true rfl⟩) ?_
                          exact absurd (Option.some.inj h) (fun z => by cases z)
                        · have h := iteF hc11 h
                          refine lv_tableOut (tgt := 172) hx hb dX4_count_1 (sw_out2 (n := 12) (by decide) (by decide) (by decide) (fun k9 hk9 => by rcases (show k9 = 0 ∨ k9 = 1 ∨ k9 = 2 ∨ k9 = 3 ∨ k9 = 4 ∨ k9 = 5 ∨ k9 = 6 ∨ k9 = 7 ∨ k9 = 8 ∨ k9 = 9 ∨ k9 = 10 ∨ k9 = 11 by omega) with rfl | rfl | rfl | rfl | rfl | rfl | rfl | rfl | rfl | rfl | rfl | rfl <;> assumption)) (by decide) ?_
                          obtain rfl := Sum.inr.inj (Option.some.inj h)
                          obtain ⟨sa, hsa⟩ := hC.2.2.2.2.2.1 ("BentGardens", 265, "what is not 0 to 11") (by decide +kernel)
                          refine vx_throwSW hx hb hl9 hown (cls := "java/lang/IllegalArgumentException") (names := ["java/lang/RuntimeException", "java/lang/Exception"]) (by decide) (by decide) (hts _ qw471) (hts _ qw13) hsa (at_words hts hC.2.1 at_IllegalArgumentException) ato_IllegalArgumentException (hC.2.2.2.2.2.2.2.1.narrow hZ) (hC.2.2.2.2.2.2.2.2.1.narrow hZ) hS (hl.1.trans hml.symm) dX4_count_172 dX4_count_175 dX4_count_176 dX4_count_179 dX4_count_182 (fun x9 hx9 => (hT x9 hx9).elim) (Nat.le_of_ble_eq_true rfl) (Nat.le_of_ble_eq_true rfl) (Nat.le_of_ble_eq_true rfl) (Nat.le_of_ble_eq_true rfl) hlocks (fun t9 _ h8 h9 => XM.mk hP hD hS h8 h9) hS.2.2 (Nat.le_of_ble_eq_true rfl) (Nat.le_of_ble_eq_true rfl)

abbrev rm_X4_requireProperty : Room := { frames := 6, cells := 0, slots := 0, locals := 120 }
theorem ok_X4_requireProperty : okY yX4_requireProperty 1 := ⟨by decide +kernel, by decide +kernel, by decide +kernel⟩
set_option maxHeartbeats 4000000 in
set_option maxRecDepth 100000 in
theorem c_X4_requireProperty (l : Launch) (z0 : Nat) (D : va_G) (t : Nat → ClassId) (a1 : Int32) (res : Unit) (h : f_X4_requireProperty a1 = some (.inl res)) : Met l yX4_requireProperty (ws_ yX4_requireProperty cX4_requireProperty 1 none) rm_X4_requireProperty (PR z0 D t [.int a1] []) (QR none) 0 0 FN := by
  refine Met.ofW (cc := cX4_requireProperty) (maxL := 1) (ret := none) (by decide) rfl ?_
  intro p e s m args below meth c s₁ Bo hml hv
  obtain ⟨rfl, hC, hP⟩ := hv
  have hx := Bo.exec
  have hb := Bo.bytes
  have hr := Bo.returns
  have hts : ∀ w ∈ LA, w.before _ s = true := fun w hw => atoms_spec (ws := ws_ yX4_requireProperty cX4_requireProperty 1 none) Bo.pre w (List.mem_cons_of_mem _ hw)
  have hown : s.vm.findClass RX4 = some m.cls := findClass_of_methodNamed Bo.named
  have hlocks := Bo.notSynchronized
  have hK := hC.1
  have hl := lv_entry ([.int a1]) (n := 1) (Nat.le_of_ble_eq_true rfl)
  rw [lg_entry_eq]
  generalize (lg_sl ([.int a1]) ++ List.replicate (1 - (lg_sl ([.int a1])).length) Slot.unset).toArray = ls at hl ⊢
  have hl : lv_has ls 1 [(0, .int a1)] := hl
  unfold f_X4_requireProperty at h
  refine lv_iload_n hx hb dX4_requireProperty_0 rfl (lv_at hl 0 rfl) ?_
  refine lv_if_lt (tgt := 9) hx hb dX4_requireProperty_1 (by decide) (fun hc => ?_) (fun hc => ?_)
  · have h := iteT hc h
    exact absurd (Option.some.inj h) (fun z => by cases z)
  · have h := iteF hc h
    refine lv_iload_n hx hb dX4_requireProperty_4 rfl (lv_at hl 0 rfl) ?_
    refine lv_iconst (v := (3)) hx hb dX4_requireProperty_5 (by decide) ?_
    refine lv_icmp_lt (tgt := 20) hx hb dX4_requireProperty_6 (by decide) (fun hc => ?_) (fun hc => ?_)
    · have h := iteT hc h
      obtain rfl := Sum.inl.inj (Option.some.inj h)
      exact W.vret hx hb hr (fun t ht hW => ⟨rfl, ht⟩) (fun q hq => absurd hq List.not_mem_nil) dX4_requireProperty_20
    · have h := iteF hc h
      exact absurd (Option.some.inj h) (fun z => by cases z)

abbrev rx_X4_requireProperty : Room := { frames := 6, cells := 1, slots := 6, locals := 120 }
set_option maxHeartbeats 4000000 in
set_option maxRecDepth 100000 in
theorem x_X4_requireProperty (l : Launch) (hl9 : l.stackTraces = false) (z0 : Nat) (D : va_G) (t : Nat → ClassId) (a1 : Int32) (xE : String) (sz : Nat) (h : f_X4_requireProperty a1 = some (.inr xE)) : vx_Met l yX4_requireProperty (ws_ yX4_requireProperty cX4_requireProperty 1 none) rx_X4_requireProperty (PM z0 D t [.int a1] [] [] sz) (fun _ _ _ _ => False) (XM xE D [] [] sz) 1 6 (OA [] sz) := by
  refine vx_ofW (cc := cX4_requireProperty) (maxL := 1) (ret := none) (by decide) rfl ?_
  intro p e s m args below meth c s₁ Bo hml hT hv
  obtain ⟨rfl, hC, hsz, hP, hD, hZ⟩ := hv
  have hx := Bo.exec
  have hb := Bo.bytes
  have hr := Bo.returns
  have hts : ∀ w ∈ LA, w.before _ s = true := fun w hw => atoms_spec (ws := ws_ yX4_requireProperty cX4_requireProperty 1 none) Bo.pre w (List.mem_cons_of_mem _ hw)
  have hown : s.vm.findClass RX4 = some m.cls := findClass_of_methodNamed Bo.named
  have hlocks := Bo.notSynchronized
  have hK := hC.1
  subst hsz
  have hl := lv_entry ([.int a1]) (n := 1) (Nat.le_of_ble_eq_true rfl)
  rw [lg_entry_eq]
  generalize (lg_sl ([.int a1]) ++ List.replicate (1 - (lg_sl ([.int a1])).length) Slot.unset).toArray = ls at hl ⊢
  have hl : lv_has ls 1 [(0, .int a1)] := hl
  suffices K9 : ∀ (H : Heap) (locs : List Loc), va_P D vwCl [] H → va_S (OA [] s.heap.size) s.heap H locs → W p l e (headSpec (ws_ yX4_requireProperty cX4_requireProperty 1 none) rx_X4_requireProperty).room s m ([.int a1] : List Value).toArray below meth c H locs 0 0 (vx_MQ below (fun _ _ _ _ => False) (XM xE D [] [] s.heap.size) ([.int a1] : List Value).toArray s 1 6 (OA [] s.heap.size)) (F0 m 0 ls []) from K9 s.heap [] hP va_S.rf
  intro H locs hP hS
  have hSz : s.heap.size ≤ H.size := hS.1
  unfold f_X4_requireProperty at h
  refine lv_iload_n hx hb dX4_requireProperty_0 rfl (lv_at hl 0 rfl) ?_
  refine lv_if_lt (tgt := 9) hx hb dX4_requireProperty_1 (by decide) (fun hc => ?_) (fun hc => ?_)
  · have h := iteT hc h
    obtain rfl := Sum.inr.inj (Option.some.inj h)
    obtain ⟨sa, hsa⟩ := hC.2.2.2.2.2.1 ("BentGardens", 356, "what is not 0 to 2") (by decide +kernel)
    refine vx_throwSW hx hb hl9 hown (cls := "java/lang/IllegalArgumentException") (names := ["java/lang/RuntimeException", "java/lang/Exception"]) (by decide) (by decide) (hts _ qw471) (hts _ qw13) hsa (at_words hts hC.2.1 at_IllegalArgumentException) ato_IllegalArgumentException (hC.2.2.2.2.2.2.2.1.narrow hZ) (hC.2.2.2.2.2.2.2.2.1.narrow hZ) hS (hl.1.trans hml.symm) dX4_requireProperty_9 dX4_requireProperty_12 dX4_requireProperty_13 dX4_requireProperty_16 dX4_requireProperty_19 (fun x9 hx9 => (hT x9 hx9).elim) (Nat.le_of_ble_eq_true rfl) (Nat.le_of_ble_eq_true rfl) (Nat.le_of_ble_eq_true rfl) (Nat.le_of_ble_eq_true rfl) hlocks (fun t9 _ h8 h9 => XM.mk hP hD hS h8 h9) hS.2.2 (Nat.le_of_ble_eq_true rfl) (Nat.le_of_ble_eq_true rfl)
  · have h := iteF hc h
    refine lv_iload_n hx hb dX4_requireProperty_4 rfl (lv_at hl 0 rfl) ?_
    refine lv_iconst (v := (3)) hx hb dX4_requireProperty_5 (by decide) ?_
    refine lv_icmp_lt (tgt := 20) hx hb dX4_requireProperty_6 (by decide) (fun hc => ?_) (fun hc => ?_)
    · have h := iteT hc h
      exact absurd (Option.some.inj h) (fun z => by cases z)
    · have h := iteF hc h
      obtain rfl := Sum.inr.inj (Option.some.inj h)
      obtain ⟨sa, hsa⟩ := hC.2.2.2.2.2.1 ("BentGardens", 356, "what is not 0 to 2") (by decide +kernel)
      refine vx_throwSW hx hb hl9 hown (cls := "java/lang/IllegalArgumentException") (names := ["java/lang/RuntimeException", "java/lang/Exception"]) (by decide) (by decide) (hts _ qw471) (hts _ qw13) hsa (at_words hts hC.2.1 at_IllegalArgumentException) ato_IllegalArgumentException (hC.2.2.2.2.2.2.2.1.narrow hZ) (hC.2.2.2.2.2.2.2.2.1.narrow hZ) hS (hl.1.trans hml.symm) dX4_requireProperty_9 dX4_requireProperty_12 dX4_requireProperty_13 dX4_requireProperty_16 dX4_requireProperty_19 (fun x9 hx9 => (hT x9 hx9).elim) (Nat.le_of_ble_eq_true rfl) (Nat.le_of_ble_eq_true rfl) (Nat.le_of_ble_eq_true rfl) (Nat.le_of_ble_eq_true rfl) hlocks (fun t9 _ h8 h9 => XM.mk hP hD hS h8 h9) hS.2.2 (Nat.le_of_ble_eq_true rfl) (Nat.le_of_ble_eq_true rfl)

abbrev rm_X4_row : Room := { frames := 7, cells := 0, slots := 0, locals := 140 }
theorem ok_X4_row : okY yX4_row 2 := ⟨by decide +kernel, by decide +kernel, by decide +kernel⟩
set_option maxHeartbeats 4000000 in
set_option maxRecDepth 100000 in
theorem c_X4_row (l : Launch) (z0 : Nat) (D : va_G) (t : Nat → ClassId) (x0 : Nat) (s0 : Nat) (s1 : Nat) (e0 : Nat) (E : Nat → Nat) (A : Nat → Nat) (B : Nat → Nat) (G : Nat → Nat) (T : va_W) (μ : XS) (a1 : Int32) (a2 : Int32) (res : Int32) (h : f_X4_row μ a1 a2 = some (.inl res)) : Met l yX4_row (ws_ yX4_row cX4_row 3 (some .int)) rm_X4_row (PR z0 D t [.ref (x0), .int a1, .int a2] (XW x0 s0 s1 e0 E A B G T t μ)) (QR (some (.int res))) 0 0 FN := by
  refine Met.ofW (cc := cX4_row) (maxL := 3) (ret := (some .int)) (by decide) rfl ?_
  intro p e s m args below meth c s₁ Bo hml hv
  obtain ⟨rfl, hC, hP⟩ := hv
  have hx := Bo.exec
  have hb := Bo.bytes
  have hr := Bo.returns
  have hts : ∀ w ∈ LA, w.before _ s = true := fun w hw => atoms_spec (ws := ws_ yX4_row cX4_row 3 (some .int)) Bo.pre w (List.mem_cons_of_mem _ hw)
  have hown : s.vm.findClass RX4 = some m.cls := findClass_of_methodNamed Bo.named
  have hlocks := Bo.notSynchronized
  have hK := hC.1
  have hl := lv_entry ([.ref (x0), .int a1, .int a2]) (n := 3) (Nat.le_of_ble_eq_true rfl)
  rw [lg_entry_eq]
  generalize (lg_sl ([.ref (x0), .int a1, .int a2]) ++ List.replicate (3 - (lg_sl ([.ref (x0), .int a1, .int a2])).length) Slot.unset).toArray = ls at hl ⊢
  have hl : lv_has ls 3 [(0, .ref (x0)), (1, .int a1), (2, .int a2)] := hl
  unfold f_X4_row at h
  refine lv_iload_n hx hb dX4_row_0 rfl (lv_at hl 1 rfl) ?_
  refine lv_if_lt (tgt := 15) hx hb dX4_row_1 (by decide) (fun hc => ?_) (fun hc => ?_)
  · have h := iteT hc h
    exact absurd (Option.some.inj h) (fun z => by cases z)
  · have h := iteF hc h
    refine lv_iload_n hx hb dX4_row_4 rfl (lv_at hl 1 rfl) ?_
    refine lv_aload_n hx hb dX4_row_5 rfl (lv_at hl 0 rfl) ?_
    refine va_get hx hb hts inX4 hown hK hP 0 rfl rfl 4 (by decide) (hts _ qw161) (fun _ h9 => h9) rfl dX4_row_6 ?_
    refine va_get hx hb hts inX1 hown hK hP 13 rfl rfl 1 (by decide) (hts _ qw124) (fun _ h9 => h9) rfl dX4_row_9 ?_
    refine lv_icmp_lt (tgt := 25) hx hb dX4_row_12 (by decide) (fun hc => ?_) (fun hc => ?_)
    · have h := iteT hc h
      refine lv_iload_n hx hb dX4_row_25 rfl (lv_at hl 2 rfl) ?_
      obtain ⟨r1o, er1, h⟩ := obind h
      rcases r1o with r1 | Er1
      · replace h := sumL h
        refine call_R (va_runS (As := [.int a2]) (rest := []) ⟨hx, hb, hml, hown, hts⟩ (c_X4_requireProperty l z0 D t a2 _ er1) (kS hts qw567 qw568 qw1 qw569 ok_X4_requireProperty ⟨Nat.le_of_ble_eq_true rfl, Nat.le_of_ble_eq_true rfl⟩) ⟨PR.blind, fun U hU hW => ⟨rfl, by rw [hU]; exact hC.warm hW, by rw [hU]; exact va_P_nil⟩⟩ rfl rfl hl.1 rfl (lv_room (Nat.le_of_ble_eq_true rfl)) dX4_row_26 ⟨Nat.le_of_ble_eq_true rfl, Nat.le_of_ble_eq_true rfl⟩) ?_
        refine lv_iload_n hx hb dX4_row_29 rfl (lv_at hl 2 rfl) ?_
        refine lv_if_ne (tgt := 45) hx hb dX4_row_30 (by decide) (fun hc => ?_) (fun hc => ?_)
        · have h := iteF hc h
          refine lv_iload_n hx hb dX4_row_45 rfl (lv_at hl 2 rfl) ?_
          refine lv_iconst (v := (1)) hx hb dX4_row_46 (by decide) ?_
          obtain ⟨o2, eo2, h⟩ := obind h
          have hJ67_o2 : ∀ ls : Array Slot, lv_has ls 3 [(1, .int a1)] → W p l e (headSpec (ws_ yX4_row cX4_row 3 (some .int)) rm_X4_row).room s m ([.ref (x0), .int a1, .int a2] : List Value).toArray below meth c s.heap [] 0 0 (MQ below (QR (some (.int res))) ([.ref (x0), .int a1, .int a2] : List Value).toArray s 0 0 FN) (F0 m 67 ls [.long o2]) := by
            intro ls hl
            refine lv_iload_n hx hb dX4_row_67 rfl (lv_at hl 0 rfl) ?_
            obtain ⟨r3, er3, h⟩ := obind h
            refine call_R (va_runS (As := [.long o2, .int a1]) (rest := []) ⟨hx, hb, hml, hown, hts⟩ (c_X4_rowMask l z0 D t o2 a1 _ er3) (kS hts qw571 qw572 qw1 qw573 ok_X4_rowMask ⟨Nat.le_of_ble_eq_true rfl, Nat.le_of_ble_eq_true rfl⟩) ⟨PR.blind, fun U hU hW => ⟨rfl, by rw [hU]; exact hC.warm hW, by rw [hU]; exact va_P_nil⟩⟩ rfl rfl hl.1 rfl (lv_room (Nat.le_of_ble_eq_true rfl)) dX4_row_68 ⟨Nat.le_of_ble_eq_true rfl, Nat.le_of_ble_eq_true rfl⟩) ?_
            obtain rfl := Sum.inl.inj (Option.some.inj h)
            exact W.iret hx hb hr (fun t ht hW => ⟨rfl, ht⟩) (fun q hq => absurd hq List.not_mem_nil) dX4_row_71
          have h := eo2
          clear eo2
          refine lv_icmp_ne (tgt := 60) hx hb dX4_row_47 (by decide) (fun hc => ?_) (fun hc => ?_)
          · have h := iteF hc h
            refine lv_aload_n hx hb dX4_row_60 rfl (lv_at hl 0 rfl) ?_
            refine va_get hx hb hts inX4 hown hK hP 0 rfl rfl 4 (by decide) (hts _ qw161) (fun _ h9 => h9) rfl dX4_row_61 ?_
            refine va_get hx hb hts inX1 hown hK hP 13 rfl rfl 4 (by decide) (hts _ qw130) (fun _ h9 => h9) rfl dX4_row_64 ?_
            obtain rfl := Option.some.inj h
            exact hJ67_o2 ls (lv_sub hl [1] rfl)
          · have h := iteT hc h
            refine lv_aload_n hx hb dX4_row_50 rfl (lv_at hl 0 rfl) ?_
            refine va_get hx hb hts inX4 hown hK hP 0 rfl rfl 4 (by decide) (hts _ qw161) (fun _ h9 => h9) rfl dX4_row_51 ?_
            refine va_get hx hb hts inX1 hown hK hP 13 rfl rfl 3 (by decide) (hts _ qw128) (fun _ h9 => h9) rfl dX4_row_54 ?_
            refine lv_goto (tgt := 67) hx hb dX4_row_57 (by decide) ?_
            obtain rfl := Option.some.inj h
            exact hJ67_o2 ls (lv_sub hl [1] rfl)
        · have h := iteT hc h
          refine lv_aload_n hx hb dX4_row_33 rfl (lv_at hl 0 rfl) ?_
          refine va_get hx hb hts inX4 hown hK hP 0 rfl rfl 4 (by decide) (hts _ qw161) (fun _ h9 => h9) rfl dX4_row_34 ?_
          obtain ⟨r4, er4, h⟩ := obind h
          refine call_R (va_runV (As := []) (rest := []) ⟨hx, hb, hml, hown, hts⟩ (c_X1_freeCells l z0 D t G ((x_wide μ), (x_high μ), (x_pond μ), (x_walls μ), (x_paved μ), (x_tc μ), (x_flips μ), (x_refused μ), (x_names μ)) _ er4) (kV hts qw242 qw243 qw244 qw8 qw245 ok_X1_freeCells ⟨Nat.le_of_ble_eq_true rfl, Nat.le_of_ble_eq_true rfl⟩) ⟨PR.blind, va_recv hK (sub_X_G (μ := μ) hP) (ci := 2) (q0 := 0) rfl rfl, fun U hU hW => ⟨rfl, by rw [hU]; exact hC.warm hW, by rw [hU]; exact (sub_X_G (μ := μ) hP)⟩⟩ rfl rfl hl.1 rfl (lv_room (Nat.le_of_ble_eq_true rfl)) dX4_row_37 ⟨Nat.le_of_ble_eq_true rfl, Nat.le_of_ble_eq_true rfl⟩) ?_
          refine lv_iload_n hx hb dX4_row_40 rfl (lv_at hl 1 rfl) ?_
          obtain ⟨r5, er5, h⟩ := obind h
          refine call_R (va_runS (As := [.long r4, .int a1]) (rest := []) ⟨hx, hb, hml, hown, hts⟩ (c_X4_rowMask l z0 D t r4 a1 _ er5) (kS hts qw571 qw572 qw1 qw573 ok_X4_rowMask ⟨Nat.le_of_ble_eq_true rfl, Nat.le_of_ble_eq_true rfl⟩) ⟨PR.blind, fun U hU hW => ⟨rfl, by rw [hU]; exact hC.warm hW, by rw [hU]; exact va_P_nil⟩⟩ rfl rfl hl.1 rfl (lv_room (Nat.le_of_ble_eq_true rfl)) dX4_row_41 ⟨Nat.le_of_ble_eq_true rfl, Nat.le_of_ble_eq_true rfl⟩) ?_
          obtain rfl := Sum.inl.inj (Option.some.inj h)
          exact W.iret hx hb hr (fun t ht hW => ⟨rfl, ht⟩) (fun q hq => absurd hq List.not_mem_nil) dX4_row_44
      · replace h := sumR h
        exact absurd (Option.some.inj h) (fun z => by cases z)
    · have h := iteF hc h
      exact absurd (Option.some.inj h) (fun z => by cases z)

abbrev rx_X4_row : Room := { frames := 7, cells := 1, slots := 6, locals := 140 }
set_option maxHeartbeats 4000000 in
set_option maxRecDepth 100000 in
theorem x_X4_row (l : Launch) (hl9 : l.stackTraces = false) (z0 : Nat) (D : va_G) (t : Nat → ClassId) (x0 : Nat) (s0 : Nat) (s1 : Nat) (e0 : Nat) (E : Nat → Nat) (A : Nat → Nat) (B : Nat → Nat) (G : Nat → Nat) (T : va_W) (μ : XS) (a1 : Int32) (a2 : Int32) (xE : String) (sz : Nat) (h : f_X4_row μ a1 a2 = some (.inr xE)) : vx_Met l yX4_row (ws_ yX4_row cX4_row 3 (some .int)) rx_X4_row (PM z0 D t [.ref (x0), .int a1, .int a2] (XW x0 s0 s1 e0 E A B G T t μ) (XL x0 s0 s1 e0 E A B G T μ) sz) (fun _ _ _ _ => False) (XM xE D (XW x0 s0 s1 e0 E A B G T t μ) (XL x0 s0 s1 e0 E A B G T μ) sz) 1 6 (OA (XL x0 s0 s1 e0 E A B G T μ) sz) := by
  refine vx_ofW (cc := cX4_row) (maxL := 3) (ret := (some .int)) (by decide) rfl ?_
  intro p e s m args below meth c s₁ Bo hml hT hv
  obtain ⟨rfl, hC, hsz, hP, hD, hZ⟩ := hv
  have hx := Bo.exec
  have hb := Bo.bytes
  have hr := Bo.returns
  have hts : ∀ w ∈ LA, w.before _ s = true := fun w hw => atoms_spec (ws := ws_ yX4_row cX4_row 3 (some .int)) Bo.pre w (List.mem_cons_of_mem _ hw)
  have hown : s.vm.findClass RX4 = some m.cls := findClass_of_methodNamed Bo.named
  have hlocks := Bo.notSynchronized
  have hK := hC.1
  subst hsz
  have hl := lv_entry ([.ref (x0), .int a1, .int a2]) (n := 3) (Nat.le_of_ble_eq_true rfl)
  rw [lg_entry_eq]
  generalize (lg_sl ([.ref (x0), .int a1, .int a2]) ++ List.replicate (3 - (lg_sl ([.ref (x0), .int a1, .int a2])).length) Slot.unset).toArray = ls at hl ⊢
  have hl : lv_has ls 3 [(0, .ref (x0)), (1, .int a1), (2, .int a2)] := hl
  suffices K9 : ∀ (H : Heap) (locs : List Loc), va_P D vwCl (XW x0 s0 s1 e0 E A B G T t μ) H → va_S (OA (XL x0 s0 s1 e0 E A B G T μ) s.heap.size) s.heap H locs → W p l e (headSpec (ws_ yX4_row cX4_row 3 (some .int)) rx_X4_row).room s m ([.ref (x0), .int a1, .int a2] : List Value).toArray below meth c H locs 0 0 (vx_MQ below (fun _ _ _ _ => False) (XM xE D (XW x0 s0 s1 e0 E A B G T t μ) (XL x0 s0 s1 e0 E A B G T μ) s.heap.size) ([.ref (x0), .int a1, .int a2] : List Value).toArray s 1 6 (OA (XL x0 s0 s1 e0 E A B G T μ) s.heap.size)) (F0 m 0 ls []) from K9 s.heap [] hP va_S.rf
  intro H locs hP hS
  have hSz : s.heap.size ≤ H.size := hS.1
  unfold f_X4_row at h
  refine lv_iload_n hx hb dX4_row_0 rfl (lv_at hl 1 rfl) ?_
  refine lv_if_lt (tgt := 15) hx hb dX4_row_1 (by decide) (fun hc => ?_) (fun hc => ?_)
  · have h := iteT hc h
    obtain rfl := Sum.inr.inj (Option.some.inj h)
    obtain ⟨sa, hsa⟩ := hC.2.2.2.2.2.1 ("BentGardens", 252, "there is no such row") (by decide +kernel)
    refine vx_throwS hx hb hl9 hown (cls := "java/lang/IndexOutOfBoundsException") (names := ["java/lang/RuntimeException", "java/lang/Exception"]) (by decide) (by decide) (hts _ qw551) (hts _ qw20) hsa (at_words hts hC.2.1 at_IndexOutOfBoundsException) ato_IndexOutOfBoundsException (hC.2.2.2.2.2.2.2.1.narrow hZ) (hC.2.2.2.2.2.2.2.2.1.narrow hZ) hS (hl.1.trans hml.symm) dX4_row_15 dX4_row_18 dX4_row_19 dX4_row_21 dX4_row_24 (fun x9 hx9 => (hT x9 hx9).elim) (Nat.le_of_ble_eq_true rfl) (Nat.le_of_ble_eq_true rfl) (Nat.le_of_ble_eq_true rfl) (Nat.le_of_ble_eq_true rfl) hlocks (fun t9 _ h8 h9 => XM.mk hP hD hS h8 h9) hS.2.2 (Nat.le_of_ble_eq_true rfl) (Nat.le_of_ble_eq_true rfl)
  · have h := iteF hc h
    refine lv_iload_n hx hb dX4_row_4 rfl (lv_at hl 1 rfl) ?_
    refine lv_aload_n hx hb dX4_row_5 rfl (lv_at hl 0 rfl) ?_
    refine va_get hx hb hts inX4 hown hK hP 0 rfl rfl 4 (by decide) (hts _ qw161) (fun _ h9 => h9) rfl dX4_row_6 ?_
    refine va_get hx hb hts inX1 hown hK hP 13 rfl rfl 1 (by decide) (hts _ qw124) (fun _ h9 => h9) rfl dX4_row_9 ?_
    refine lv_icmp_lt (tgt := 25) hx hb dX4_row_12 (by decide) (fun hc => ?_) (fun hc => ?_)
    · have h := iteT hc h
      refine lv_iload_n hx hb dX4_row_25 rfl (lv_at hl 2 rfl) ?_
      obtain ⟨r1o, er1, h⟩ := obind h
      rcases r1o with r1 | Er1
      · replace h := sumL h
        refine call_R (va_runS (As := [.int a2]) (rest := []) ⟨hx, hb, hml, hown, hts⟩ (c_X4_requireProperty l z0 D t a2 _ er1) (kS hts qw567 qw568 qw1 qw569 ok_X4_requireProperty ⟨Nat.le_of_ble_eq_true rfl, Nat.le_of_ble_eq_true rfl⟩) ⟨PR.blind, fun U hU hW => ⟨rfl, by rw [hU]; exact (hC.at hS hZ).warm hW, by rw [hU]; exact va_P_nil⟩⟩ rfl rfl hl.1 rfl (lv_room (Nat.le_of_ble_eq_true rfl)) dX4_row_26 ⟨Nat.le_of_ble_eq_true rfl, Nat.le_of_ble_eq_true rfl⟩) ?_
        refine lv_iload_n hx hb dX4_row_29 rfl (lv_at hl 2 rfl) ?_
        refine lv_if_ne (tgt := 45) hx hb dX4_row_30 (by decide) (fun hc => ?_) (fun hc => ?_)
        · have h := iteF hc h
          refine lv_iload_n hx hb dX4_row_45 rfl (lv_at hl 2 rfl) ?_
          refine lv_iconst (v := (1)) hx hb dX4_row_46 (by decide) ?_
          obtain ⟨o2, eo2, h⟩ := obind h
          have hJ67_o2 : ∀ (ls : Array Slot) (H : Heap) (locs : List Loc), lv_has ls 3 [(1, .int a1)] → va_P D vwCl (XW x0 s0 s1 e0 E A B G T t μ) H → va_D (OA (XL x0 s0 s1 e0 E A B G T μ) s.heap.size) (XW x0 s0 s1 e0 E A B G T t μ) → va_S (OA (XL x0 s0 s1 e0 E A B G T μ) s.heap.size) s.heap H locs → W p l e (headSpec (ws_ yX4_row cX4_row 3 (some .int)) rx_X4_row).room s m ([.ref (x0), .int a1, .int a2] : List Value).toArray below meth c H locs 0 0 (vx_MQ below (fun _ _ _ _ => False) (XM xE D (XW x0 s0 s1 e0 E A B G T t μ) (XL x0 s0 s1 e0 E A B G T μ) s.heap.size) ([.ref (x0), .int a1, .int a2] : List Value).toArray s 1 6 (OA (XL x0 s0 s1 e0 E A B G T μ) s.heap.size)) (F0 m 67 ls [.long o2]) := by
            intro ls H locs hl hP hD hS
            have hSz : s.heap.size ≤ H.size := hS.1
            refine lv_iload_n hx hb dX4_row_67 rfl (lv_at hl 0 rfl) ?_
            obtain ⟨r3, er3, h⟩ := obind h
            refine call_R (va_runS (As := [.long o2, .int a1]) (rest := []) ⟨hx, hb, hml, hown, hts⟩ (c_X4_rowMask l z0 D t o2 a1 _ er3) (kS hts qw571 qw572 qw1 qw573 ok_X4_rowMask ⟨Nat.le_of_ble_eq_true rfl, Nat.le_of_ble_eq_true rfl⟩) ⟨PR.blind, fun U hU hW => ⟨rfl, by rw [hU]; exact (hC.at hS hZ).warm hW, by rw [hU]; exact va_P_nil⟩⟩ rfl rfl hl.1 rfl (lv_room (Nat.le_of_ble_eq_true rfl)) dX4_row_68 ⟨Nat.le_of_ble_eq_true rfl, Nat.le_of_ble_eq_true rfl⟩) ?_
            exact absurd (Option.some.inj h) (fun z => by cases z)
          have h := eo2
          clear eo2
          refine lv_icmp_ne (tgt := 60) hx hb dX4_row_47 (by decide) (fun hc => ?_) (fun hc => ?_)
          · have h := iteF hc h
            refine lv_aload_n hx hb dX4_row_60 rfl (lv_at hl 0 rfl) ?_
            refine va_get hx hb hts inX4 hown hK hP 0 rfl rfl 4 (by decide) (hts _ qw161) (fun _ h9 => h9) rfl dX4_row_61 ?_
            refine va_get hx hb hts inX1 hown hK hP 13 rfl rfl 4 (by decide) (hts _ qw130) (fun _ h9 => h9) rfl dX4_row_64 ?_
            obtain rfl := Option.some.inj h
            exact hJ67_o2 ls H locs (lv_sub hl [1] rfl) hP hD hS
          · have h := iteT hc h
            refine lv_aload_n hx hb dX4_row_50 rfl (lv_at hl 0 rfl) ?_
            refine va_get hx hb hts inX4 hown hK hP 0 rfl rfl 4 (by decide) (hts _ qw161) (fun _ h9 => h9) rfl dX4_row_51 ?_
            refine va_get hx hb hts inX1 hown hK hP 13 rfl rfl 3 (by decide) (hts _ qw128) (fun _ h9 => h9) rfl dX4_row_54 ?_
            refine lv_goto (tgt := 67) hx hb dX4_row_57 (by decide) ?_
            obtain rfl := Option.some.inj h
            exact hJ67_o2 ls H locs (lv_sub hl [1] rfl) hP hD hS
        · have h := iteT hc h
          refine lv_aload_n hx hb dX4_row_33 rfl (lv_at hl 0 rfl) ?_
          refine va_get hx hb hts inX4 hown hK hP 0 rfl rfl 4 (by decide) (hts _ qw161) (fun _ h9 => h9) rfl dX4_row_34 ?_
          obtain ⟨r4, er4, h⟩ := obind h
          refine call_R (va_runV (As := []) (rest := []) ⟨hx, hb, hml, hown, hts⟩ (c_X1_freeCells l z0 D t G ((x_wide μ), (x_high μ), (x_pond μ), (x_walls μ), (x_paved μ), (x_tc μ), (x_flips μ), (x_refused μ), (x_names μ)) _ er4) (kV hts qw242 qw243 qw244 qw8 qw245 ok_X1_freeCells ⟨Nat.le_of_ble_eq_true rfl, Nat.le_of_ble_eq_true rfl⟩) ⟨PR.blind, va_recv hK (sub_X_G (μ := μ) hP) (ci := 2) (q0 := 0) rfl rfl, fun U hU hW => ⟨rfl, by rw [hU]; exact (hC.at hS hZ).warm hW, by rw [hU]; exact (sub_X_G (μ := μ) hP)⟩⟩ rfl rfl hl.1 rfl (lv_room (Nat.le_of_ble_eq_true rfl)) dX4_row_37 ⟨Nat.le_of_ble_eq_true rfl, Nat.le_of_ble_eq_true rfl⟩) ?_
          refine lv_iload_n hx hb dX4_row_40 rfl (lv_at hl 1 rfl) ?_
          obtain ⟨r5, er5, h⟩ := obind h
          refine call_R (va_runS (As := [.long r4, .int a1]) (rest := []) ⟨hx, hb, hml, hown, hts⟩ (c_X4_rowMask l z0 D t r4 a1 _ er5) (kS hts qw571 qw572 qw1 qw573 ok_X4_rowMask ⟨Nat.le_of_ble_eq_true rfl, Nat.le_of_ble_eq_true rfl⟩) ⟨PR.blind, fun U hU hW => ⟨rfl, by rw [hU]; exact (hC.at hS hZ).warm hW, by rw [hU]; exact va_P_nil⟩⟩ rfl rfl hl.1 rfl (lv_room (Nat.le_of_ble_eq_true rfl)) dX4_row_41 ⟨Nat.le_of_ble_eq_true rfl, Nat.le_of_ble_eq_true rfl⟩) ?_
          exact absurd (Option.some.inj h) (fun z => by cases z)
      · replace h := sumR h
        obtain rfl := Sum.inr.inj (Option.some.inj h)
        refine call_X (vx_runS (As := [.int a2]) (rest := []) ⟨hx, hb, hml, hown, hts⟩ (x_X4_requireProperty l hl9 z0 D t a2 _ H.size er1) (kS hts qw567 qw568 qw1 qw569 ok_X4_requireProperty ⟨Nat.le_of_ble_eq_true rfl, Nat.le_of_ble_eq_true rfl⟩) ⟨PM.blind, fun U hU hW => ⟨rfl, by rw [hU]; exact (hC.at hS hZ).warm hW, by rw [hU], by rw [hU]; exact va_P_nil, ⟨(va_D_nil (A := OA [] s.heap.size)).1, fun _ _ h9 => Or.inl (in_map (L := []) rfl h9)⟩, fun q hq => hZ q (OA.nil hSz q hq)⟩⟩ rfl rfl hl.1 rfl (lv_room (Nat.le_of_ble_eq_true rfl)) dX4_row_26 ⟨Nat.le_of_ble_eq_true rfl, Nat.le_of_ble_eq_true rfl⟩) hS (OA.nil hSz) (fun H locs q9 ce9 hP1 hD1 hS hsz1 hk1 hce hcv hcc => ?_)
        have hP : va_P D vwCl (XW x0 s0 s1 e0 E A B G T t μ) H := va_P.keptN hP hk1
        exact vx_out (fun x9 hx9 => (hT x9 hx9).elim) hlocks hce hcv hcc (fun t9 h8 _ => XM.mk2 hP hD hS h8) hS.2.2 (Nat.le_of_ble_eq_true rfl) (Nat.le_of_ble_eq_true rfl)
    · have h := iteF hc h
      obtain rfl := Sum.inr.inj (Option.some.inj h)
      obtain ⟨sa, hsa⟩ := hC.2.2.2.2.2.1 ("BentGardens", 252, "there is no such row") (by decide +kernel)
      refine vx_throwS hx hb hl9 hown (cls := "java/lang/IndexOutOfBoundsException") (names := ["java/lang/RuntimeException", "java/lang/Exception"]) (by decide) (by decide) (hts _ qw551) (hts _ qw20) hsa (at_words hts hC.2.1 at_IndexOutOfBoundsException) ato_IndexOutOfBoundsException (hC.2.2.2.2.2.2.2.1.narrow hZ) (hC.2.2.2.2.2.2.2.2.1.narrow hZ) hS (hl.1.trans hml.symm) dX4_row_15 dX4_row_18 dX4_row_19 dX4_row_21 dX4_row_24 (fun x9 hx9 => (hT x9 hx9).elim) (Nat.le_of_ble_eq_true rfl) (Nat.le_of_ble_eq_true rfl) (Nat.le_of_ble_eq_true rfl) (Nat.le_of_ble_eq_true rfl) hlocks (fun t9 _ h8 h9 => XM.mk hP hD hS h8 h9) hS.2.2 (Nat.le_of_ble_eq_true rfl) (Nat.le_of_ble_eq_true rfl)

abbrev rm_X4_mixedRows : Room := { frames := 8, cells := 0, slots := 0, locals := 162 }
theorem ok_X4_mixedRows : okY yX4_mixedRows 1 := ⟨by decide +kernel, by decide +kernel, by decide +kernel⟩
set_option maxHeartbeats 4000000 in
set_option maxRecDepth 100000 in
theorem c_X4_mixedRows (l : Launch) (z0 : Nat) (D : va_G) (t : Nat → ClassId) (x0 : Nat) (s0 : Nat) (s1 : Nat) (e0 : Nat) (E : Nat → Nat) (A : Nat → Nat) (B : Nat → Nat) (G : Nat → Nat) (T : va_W) (μ : XS) (a1 : Int64) (res : Int64) (h : f_X4_mixedRows μ a1 = some (.inl res)) : Met l yX4_mixedRows (ws_ yX4_mixedRows cX4_mixedRows 7 (some .long)) rm_X4_mixedRows (PR z0 D t [.ref (x0), .long a1] (XW x0 s0 s1 e0 E A B G T t μ)) (QR (some (.long res))) 0 0 FN := by
  refine Met.ofW (cc := cX4_mixedRows) (maxL := 7) (ret := (some .long)) (by decide) rfl ?_
  intro p e s m args below meth c s₁ Bo hml hv
  obtain ⟨rfl, hC, hP⟩ := hv
  have hx := Bo.exec
  have hb := Bo.bytes
  have hr := Bo.returns
  have hts : ∀ w ∈ LA, w.before _ s = true := fun w hw => atoms_spec (ws := ws_ yX4_mixedRows cX4_mixedRows 7 (some .long)) Bo.pre w (List.mem_cons_of_mem _ hw)
  have hown : s.vm.findClass RX4 = some m.cls := findClass_of_methodNamed Bo.named
  have hlocks := Bo.notSynchronized
  have hK := hC.1
  have hl := lv_entry ([.ref (x0), .long a1]) (n := 7) (Nat.le_of_ble_eq_true rfl)
  rw [lg_entry_eq]
  generalize (lg_sl ([.ref (x0), .long a1]) ++ List.replicate (7 - (lg_sl ([.ref (x0), .long a1])).length) Slot.unset).toArray = ls at hl ⊢
  have hl : lv_has ls 7 [(0, .ref (x0)), (1, .long a1)] := hl
  unfold f_X4_mixedRows at h
  refine lv_lload_n hx hb dX4_mixedRows_0 rfl (lv_at hl 1 rfl) ?_
  refine lv_lstore_n (lv' := [(3, .long a1), (0, .ref (x0)), (1, .long a1)]) hx hb dX4_mixedRows_1 rfl hl (by decide) rfl (fun ls hl => ?_)
  refine lv_iconst (v := (0)) hx hb dX4_mixedRows_2 (by decide) ?_
  refine lv_istore (lv' := [(5, .int (0 : Int32)), (3, .long a1), (0, .ref (x0)), (1, .long a1)]) hx hb dX4_mixedRows_3 hl (by decide) rfl (fun ls hl => ?_)
  obtain ⟨o23, eo23, h⟩ := obind h
  have hL5 : ∀ (n : Nat) (y3_5 : Int64) (y5_5 : Int32) (o23 : (Int64) ⊕ ((Int64) ⊕ (String))), f_X4_mixedRows_L5 μ n y3_5 y5_5 = some o23 → (∀ o23l, o23 = .inl o23l → ∀ (ls : Array Slot), lv_has ls 7 [(3, .long o23l)] → W p l e (headSpec (ws_ yX4_mixedRows cX4_mixedRows 7 (some .long)) rm_X4_mixedRows).room s m ([.ref (x0), .long a1] : List Value).toArray below meth c s.heap [] 0 0 (MQ below (QR (some (.long res))) ([.ref (x0), .long a1] : List Value).toArray s 0 0 FN) (F0 m 52 ls [])) → (∀ r9, o23 = .inr r9 → r9 = (.inl res)) → ∀ (ls : Array Slot), lv_has ls 7 [(0, .ref (x0)), (3, .long y3_5), (5, .int y5_5)] → W p l e (headSpec (ws_ yX4_mixedRows cX4_mixedRows 7 (some .long)) rm_X4_mixedRows).room s m ([.ref (x0), .long a1] : List Value).toArray below meth c s.heap [] 0 0 (MQ below (QR (some (.long res))) ([.ref (x0), .long a1] : List Value).toArray s 0 0 FN) (F0 m 5 ls []) := by
    intro n
    induction n with
    | zero => intro y3_5 y5_5 o23 h; exact absurd h (fun z => by cases z)
    | succ n ih =>
      intro y3_5 y5_5 o23 h hK5 hR5 ls hl
      replace h : f_X4_mixedRows_L5_b μ (f_X4_mixedRows_L5 μ n) y3_5 y5_5 = some o23 := h
      unfold f_X4_mixedRows_L5_b at h
      refine lv_iload hx hb dX4_mixedRows_5 (lv_at hl 2 rfl) ?_
      refine lv_aload_n hx hb dX4_mixedRows_7 rfl (lv_at hl 0 rfl) ?_
      refine va_get hx hb hts inX4 hown hK hP 0 rfl rfl 4 (by decide) (hts _ qw161) (fun _ h9 => h9) rfl dX4_mixedRows_8 ?_
      refine va_get hx hb hts inX1 hown hK hP 13 rfl rfl 1 (by decide) (hts _ qw124) (fun _ h9 => h9) rfl dX4_mixedRows_11 ?_
      refine lv_icmp_ge (tgt := 52) hx hb dX4_mixedRows_14 (by decide) (fun hc => ?_) (fun hc => ?_)
      · have h := iteT hc h
        obtain rfl := Option.some.inj h
        exact hK5 _ rfl ls (lv_sub hl [1] rfl)
      · have h := iteF hc h
        refine lv_iconst (v := (0)) hx hb dX4_mixedRows_17 (by decide) ?_
        refine lv_istore (lv' := [(6, .int (0 : Int32)), (0, .ref (x0)), (3, .long y3_5), (5, .int y5_5)]) hx hb dX4_mixedRows_18 hl (by decide) rfl (fun ls hl => ?_)
        obtain ⟨o30, eo30, h⟩ := obind h
        have hL20 : ∀ (n : Nat) (y3_20 : Int64) (y6_20 : Int32) (o30 : (Int64) ⊕ ((Int64) ⊕ (String))), f_X4_mixedRows_L20 μ y5_5 n y3_20 y6_20 = some o30 → (∀ o30l, o30 = .inl o30l → ∀ (ls : Array Slot), lv_has ls 7 [(0, .ref (x0)), (3, .long o30l), (5, .int y5_5)] → W p l e (headSpec (ws_ yX4_mixedRows cX4_mixedRows 7 (some .long)) rm_X4_mixedRows).room s m ([.ref (x0), .long a1] : List Value).toArray below meth c s.heap [] 0 0 (MQ below (QR (some (.long res))) ([.ref (x0), .long a1] : List Value).toArray s 0 0 FN) (F0 m 46 ls [])) → (∀ r9, o30 = .inr r9 → r9 = (.inl res)) → ∀ (ls : Array Slot), lv_has ls 7 [(0, .ref (x0)), (3, .long y3_20), (5, .int y5_5), (6, .int y6_20)] → W p l e (headSpec (ws_ yX4_mixedRows cX4_mixedRows 7 (some .long)) rm_X4_mixedRows).room s m ([.ref (x0), .long a1] : List Value).toArray below meth c s.heap [] 0 0 (MQ below (QR (some (.long res))) ([.ref (x0), .long a1] : List Value).toArray s 0 0 FN) (F0 m 20 ls []) := by
          intro n
          induction n with
          | zero => intro y3_20 y6_20 o30 h; exact absurd h (fun z => by cases z)
          | succ n ih =>
            intro y3_20 y6_20 o30 h hK20 hR20 ls hl
            replace h : f_X4_mixedRows_L20_b μ y5_5 (f_X4_mixedRows_L20 μ y5_5 n) y3_20 y6_20 = some o30 := h
            unfold f_X4_mixedRows_L20_b at h
            refine lv_iload hx hb dX4_mixedRows_20 (lv_at hl 3 rfl) ?_
            refine lv_iconst (v := (3)) hx hb dX4_mixedRows_22 (by decide) ?_
            refine lv_icmp_ge (tgt := 46) hx hb dX4_mixedRows_23 (by decide) (fun hc => ?_) (fun hc => ?_)
            · have h := iteT hc h
              obtain rfl := Option.some.inj h
              exact hK20 _ rfl ls (lv_sub hl [0, 1, 2] rfl)
            · have h := iteF hc h
              refine lv_lload_n hx hb dX4_mixedRows_26 rfl (lv_at hl 1 rfl) ?_
              refine lv_aload_n hx hb dX4_mixedRows_27 rfl (lv_at hl 0 rfl) ?_
              refine lv_iload hx hb dX4_mixedRows_28 (lv_at hl 2 rfl) ?_
              refine lv_iload hx hb dX4_mixedRows_30 (lv_at hl 3 rfl) ?_
              obtain ⟨r31o, er31, h⟩ := obind h
              rcases r31o with r31 | Er31
              · replace h := sumL h
                refine call_R (va_runV (As := [.int y5_5, .int y6_20]) (rest := [.long y3_20]) ⟨hx, hb, hml, hown, hts⟩ (c_X4_row l z0 D t x0 s0 s1 e0 E A B G T μ y5_5 y6_20 _ er31) (kV hts qw547 qw548 qw549 qw1 qw550 ok_X4_row ⟨Nat.le_of_ble_eq_true rfl, Nat.le_of_ble_eq_true rfl⟩) ⟨PR.blind, va_recv hK hP (ci := 5) (q0 := 0) rfl rfl, fun U hU hW => ⟨rfl, by rw [hU]; exact hC.warm hW, by rw [hU]; exact hP⟩⟩ rfl rfl hl.1 rfl (lv_room (Nat.le_of_ble_eq_true rfl)) dX4_mixedRows_32 ⟨Nat.le_of_ble_eq_true rfl, Nat.le_of_ble_eq_true rfl⟩) ?_
                refine lv_i2l hx hb dX4_mixedRows_35 rfl ?_
                obtain ⟨r32, er32, h⟩ := obind h
                refine call_R (va_runS (As := [.long y3_20, .long r31.toInt64]) (rest := []) ⟨hx, hb, hml, hown, hts⟩ (c_X4_mixed l z0 D t y3_20 r31.toInt64 _ er32) (kS hts qw539 qw540 qw1 qw541 ok_X4_mixed ⟨Nat.le_of_ble_eq_true rfl, Nat.le_of_ble_eq_true rfl⟩) ⟨PR.blind, fun U hU hW => ⟨rfl, by rw [hU]; exact hC.warm hW, by rw [hU]; exact va_P_nil⟩⟩ rfl rfl hl.1 rfl (lv_room (Nat.le_of_ble_eq_true rfl)) dX4_mixedRows_36 ⟨Nat.le_of_ble_eq_true rfl, Nat.le_of_ble_eq_true rfl⟩) ?_
                refine lv_lstore_n (lv' := [(3, .long r32), (0, .ref (x0)), (5, .int y5_5), (6, .int y6_20)]) hx hb dX4_mixedRows_39 rfl hl (by decide) rfl (fun ls hl => ?_)
                obtain ⟨x33, ex33, h⟩ := jlet_some h
                refine lv_iinc (v := x33) (lv' := [(6, .int x33), (3, .long r32), (0, .ref (x0)), (5, .int y5_5)]) hx hb dX4_mixedRows_40 hl (k := 3) rfl (by rw [ex33]; rfl) (by decide) rfl (fun ls hl => ?_)
                refine lv_goto (tgt := 20) hx hb dX4_mixedRows_43 (by decide) ?_
                exact ih _ _ _ h hK20 hR20 ls (lv_sub hl [2, 1, 3, 0] rfl)
              · replace h := sumR h
                have e9 := hR20 _ (Option.some.inj h).symm
                exact absurd e9 (fun z => by cases z)
        refine hL20 _ _ _ _ eo30 (fun o30l eq9 ls hl => ?_) (fun r9 eq9 => ?_) ls (lv_sub hl [1, 2, 3, 0] rfl)
        · subst eq9
          replace h := sumL h
          obtain ⟨x34, ex34, h⟩ := jlet_some h
          refine lv_iinc (v := x34) (lv' := [(5, .int x34), (0, .ref (x0)), (3, .long o30l)]) hx hb dX4_mixedRows_46 hl (k := 2) rfl (by rw [ex34]; rfl) (by decide) rfl (fun ls hl => ?_)
          refine lv_goto (tgt := 5) hx hb dX4_mixedRows_49 (by decide) ?_
          exact ih _ _ _ h hK5 hR5 ls (lv_sub hl [1, 2, 0] rfl)
        · subst eq9
          replace h := sumR h
          exact hR5 _ (Option.some.inj h).symm
  refine hL5 _ _ _ _ eo23 (fun o23l eq9 ls hl => ?_) (fun r9 eq9 => ?_) ls (lv_sub hl [2, 1, 0] rfl)
  · subst eq9
    replace h := sumL h
    refine lv_lload_n hx hb dX4_mixedRows_52 rfl (lv_at hl 0 rfl) ?_
    obtain rfl := Sum.inl.inj (Option.some.inj h)
    exact W.lret hx hb hr (fun t ht hW => ⟨rfl, ht⟩) (fun q hq => absurd hq List.not_mem_nil) dX4_mixedRows_53
  · subst eq9
    replace h := sumR h
    exact Option.some.inj h

abbrev rx_X4_mixedRows : Room := { frames := 8, cells := 1, slots := 6, locals := 162 }
set_option maxHeartbeats 4000000 in
set_option maxRecDepth 100000 in
theorem x_X4_mixedRows (l : Launch) (hl9 : l.stackTraces = false) (z0 : Nat) (D : va_G) (t : Nat → ClassId) (x0 : Nat) (s0 : Nat) (s1 : Nat) (e0 : Nat) (E : Nat → Nat) (A : Nat → Nat) (B : Nat → Nat) (G : Nat → Nat) (T : va_W) (μ : XS) (a1 : Int64) (xE : String) (sz : Nat) (h : f_X4_mixedRows μ a1 = some (.inr xE)) : vx_Met l yX4_mixedRows (ws_ yX4_mixedRows cX4_mixedRows 7 (some .long)) rx_X4_mixedRows (PM z0 D t [.ref (x0), .long a1] (XW x0 s0 s1 e0 E A B G T t μ) (XL x0 s0 s1 e0 E A B G T μ) sz) (fun _ _ _ _ => False) (XM xE D (XW x0 s0 s1 e0 E A B G T t μ) (XL x0 s0 s1 e0 E A B G T μ) sz) 1 6 (OA (XL x0 s0 s1 e0 E A B G T μ) sz) := by
  refine vx_ofW (cc := cX4_mixedRows) (maxL := 7) (ret := (some .long)) (by decide) rfl ?_
  intro p e s m args below meth c s₁ Bo hml hT hv
  obtain ⟨rfl, hC, hsz, hP, hD, hZ⟩ := hv
  have hx := Bo.exec
  have hb := Bo.bytes
  have hr := Bo.returns
  have hts : ∀ w ∈ LA, w.before _ s = true := fun w hw => atoms_spec (ws := ws_ yX4_mixedRows cX4_mixedRows 7 (some .long)) Bo.pre w (List.mem_cons_of_mem _ hw)
  have hown : s.vm.findClass RX4 = some m.cls := findClass_of_methodNamed Bo.named
  have hlocks := Bo.notSynchronized
  have hK := hC.1
  subst hsz
  have hl := lv_entry ([.ref (x0), .long a1]) (n := 7) (Nat.le_of_ble_eq_true rfl)
  rw [lg_entry_eq]
  generalize (lg_sl ([.ref (x0), .long a1]) ++ List.replicate (7 - (lg_sl ([.ref (x0), .long a1])).length) Slot.unset).toArray = ls at hl ⊢
  have hl : lv_has ls 7 [(0, .ref (x0)), (1, .long a1)] := hl
  suffices K9 : ∀ (H : Heap) (locs : List Loc), va_P D vwCl (XW x0 s0 s1 e0 E A B G T t μ) H → va_S (OA (XL x0 s0 s1 e0 E A B G T μ) s.heap.size) s.heap H locs → W p l e (headSpec (ws_ yX4_mixedRows cX4_mixedRows 7 (some .long)) rx_X4_mixedRows).room s m ([.ref (x0), .long a1] : List Value).toArray below meth c H locs 0 0 (vx_MQ below (fun _ _ _ _ => False) (XM xE D (XW x0 s0 s1 e0 E A B G T t μ) (XL x0 s0 s1 e0 E A B G T μ) s.heap.size) ([.ref (x0), .long a1] : List Value).toArray s 1 6 (OA (XL x0 s0 s1 e0 E A B G T μ) s.heap.size)) (F0 m 0 ls []) from K9 s.heap [] hP va_S.rf
  intro H locs hP hS
  have hSz : s.heap.size ≤ H.size := hS.1
  unfold f_X4_mixedRows at h
  refine lv_lload_n hx hb dX4_mixedRows_0 rfl (lv_at hl 1 rfl) ?_
  refine lv_lstore_n (lv' := [(3, .long a1), (0, .ref (x0)), (1, .long a1)]) hx hb dX4_mixedRows_1 rfl hl (by decide) rfl (fun ls hl => ?_)
  refine lv_iconst (v := (0)) hx hb dX4_mixedRows_2 (by decide) ?_
  refine lv_istore (lv' := [(5, .int (0 : Int32)), (3, .long a1), (0, .ref (x0)), (1, .long a1)]) hx hb dX4_mixedRows_3 hl (by decide) rfl (fun ls hl => ?_)
  obtain ⟨o23, eo23, h⟩ := obind h
  have hL5 : ∀ (n : Nat) (y3_5 : Int64) (y5_5 : Int32) (o23 : (Int64) ⊕ ((Int64) ⊕ (String))), f_X4_mixedRows_L5 μ n y3_5 y5_5 = some o23 → (∀ o23l, o23 = .inl o23l → ∀ (ls : Array Slot) (H : Heap) (locs : List Loc), lv_has ls 7 [(3, .long o23l)] → va_P D vwCl (XW x0 s0 s1 e0 E A B G T t μ) H → va_D (OA (XL x0 s0 s1 e0 E A B G T μ) s.heap.size) (XW x0 s0 s1 e0 E A B G T t μ) → va_S (OA (XL x0 s0 s1 e0 E A B G T μ) s.heap.size) s.heap H locs → W p l e (headSpec (ws_ yX4_mixedRows cX4_mixedRows 7 (some .long)) rx_X4_mixedRows).room s m ([.ref (x0), .long a1] : List Value).toArray below meth c H locs 0 0 (vx_MQ below (fun _ _ _ _ => False) (XM xE D (XW x0 s0 s1 e0 E A B G T t μ) (XL x0 s0 s1 e0 E A B G T μ) s.heap.size) ([.ref (x0), .long a1] : List Value).toArray s 1 6 (OA (XL x0 s0 s1 e0 E A B G T μ) s.heap.size)) (F0 m 52 ls [])) → (∀ r9, o23 = .inr r9 → r9 = (.inr xE)) → ∀ (ls : Array Slot) (H : Heap) (locs : List Loc), lv_has ls 7 [(0, .ref (x0)), (3, .long y3_5), (5, .int y5_5)] → va_P D vwCl (XW x0 s0 s1 e0 E A B G T t μ) H → va_D (OA (XL x0 s0 s1 e0 E A B G T μ) s.heap.size) (XW x0 s0 s1 e0 E A B G T t μ) → va_S (OA (XL x0 s0 s1 e0 E A B G T μ) s.heap.size) s.heap H locs → W p l e (headSpec (ws_ yX4_mixedRows cX4_mixedRows 7 (some .long)) rx_X4_mixedRows).room s m ([.ref (x0), .long a1] : List Value).toArray below meth c H locs 0 0 (vx_MQ below (fun _ _ _ _ => False) (XM xE D (XW x0 s0 s1 e0 E A B G T t μ) (XL x0 s0 s1 e0 E A B G T μ) s.heap.size) ([.ref (x0), .long a1] : List Value).toArray s 1 6 (OA (XL x0 s0 s1 e0 E A B G T μ) s.heap.size)) (F0 m 5 ls []) := by
    intro n
    induction n with
    | zero => intro y3_5 y5_5 o23 h; exact absurd h (fun z => by cases z)
    | succ n ih =>
      intro y3_5 y5_5 o23 h hK5 hR5 ls H locs hl hP hD hS
      replace h : f_X4_mixedRows_L5_b μ (f_X4_mixedRows_L5 μ n) y3_5 y5_5 = some o23 := h
      unfold f_X4_mixedRows_L5_b at h
      have hSz : s.heap.size ≤ H.size := hS.1
      refine lv_iload hx hb dX4_mixedRows_5 (lv_at hl 2 rfl) ?_
      refine lv_aload_n hx hb dX4_mixedRows_7 rfl (lv_at hl 0 rfl) ?_
      refine va_get hx hb hts inX4 hown hK hP 0 rfl rfl 4 (by decide) (hts _ qw161) (fun _ h9 => h9) rfl dX4_mixedRows_8 ?_
      refine va_get hx hb hts inX1 hown hK hP 13 rfl rfl 1 (by decide) (hts _ qw124) (fun _ h9 => h9) rfl dX4_mixedRows_11 ?_
      refine lv_icmp_ge (tgt := 52) hx hb dX4_mixedRows_14 (by decide) (fun hc => ?_) (fun hc => ?_)
      · have h := iteT hc h
        obtain rfl := Option.some.inj h
        exact hK5 _ rfl ls H locs (lv_sub hl [1] rfl) hP hD hS
      · have h := iteF hc h
        refine lv_iconst (v := (0)) hx hb dX4_mixedRows_17 (by decide) ?_
        refine lv_istore (lv' := [(6, .int (0 : Int32)), (0, .ref (x0)), (3, .long y3_5), (5, .int y5_5)]) hx hb dX4_mixedRows_18 hl (by decide) rfl (fun ls hl => ?_)
        obtain ⟨o30, eo30, h⟩ := obind h
        have hL20 : ∀ (n : Nat) (y3_20 : Int64) (y6_20 : Int32) (o30 : (Int64) ⊕ ((Int64) ⊕ (String))), f_X4_mixedRows_L20 μ y5_5 n y3_20 y6_20 = some o30 → (∀ o30l, o30 = .inl o30l → ∀ (ls : Array Slot) (H : Heap) (locs : List Loc), lv_has ls 7 [(0, .ref (x0)), (3, .long o30l), (5, .int y5_5)] → va_P D vwCl (XW x0 s0 s1 e0 E A B G T t μ) H → va_D (OA (XL x0 s0 s1 e0 E A B G T μ) s.heap.size) (XW x0 s0 s1 e0 E A B G T t μ) → va_S (OA (XL x0 s0 s1 e0 E A B G T μ) s.heap.size) s.heap H locs → W p l e (headSpec (ws_ yX4_mixedRows cX4_mixedRows 7 (some .long)) rx_X4_mixedRows).room s m ([.ref (x0), .long a1] : List Value).toArray below meth c H locs 0 0 (vx_MQ below (fun _ _ _ _ => False) (XM xE D (XW x0 s0 s1 e0 E A B G T t μ) (XL x0 s0 s1 e0 E A B G T μ) s.heap.size) ([.ref (x0), .long a1] : List Value).toArray s 1 6 (OA (XL x0 s0 s1 e0 E A B G T μ) s.heap.size)) (F0 m 46 ls [])) → (∀ r9, o30 = .inr r9 → r9 = (.inr xE)) → ∀ (ls : Array Slot) (H : Heap) (locs : List Loc), lv_has ls 7 [(0, .ref (x0)), (3, .long y3_20), (5, .int y5_5), (6, .int y6_20)] → va_P D vwCl (XW x0 s0 s1 e0 E A B G T t μ) H → va_D (OA (XL x0 s0 s1 e0 E A B G T μ) s.heap.size) (XW x0 s0 s1 e0 E A B G T t μ) → va_S (OA (XL x0 s0 s1 e0 E A B G T μ) s.heap.size) s.heap H locs → W p l e (headSpec (ws_ yX4_mixedRows cX4_mixedRows 7 (some .long)) rx_X4_mixedRows).room s m ([.ref (x0), .long a1] : List Value).toArray below meth c H locs 0 0 (vx_MQ below (fun _ _ _ _ => False) (XM xE D (XW x0 s0 s1 e0 E A B G T t μ) (XL x0 s0 s1 e0 E A B G T μ) s.heap.size) ([.ref (x0), .long a1] : List Value).toArray s 1 6 (OA (XL x0 s0 s1 e0 E A B G T μ) s.heap.size)) (F0 m 20 ls []) := by
          intro n
          induction n with
          | zero => intro y3_20 y6_20 o30 h; exact absurd h (fun z => by cases z)
          | succ n ih =>
            intro y3_20 y6_20 o30 h hK20 hR20 ls H locs hl hP hD hS
            replace h : f_X4_mixedRows_L20_b μ y5_5 (f_X4_mixedRows_L20 μ y5_5 n) y3_20 y6_20 = some o30 := h
            unfold f_X4_mixedRows_L20_b at h
            have hSz : s.heap.size ≤ H.size := hS.1
            refine lv_iload hx hb dX4_mixedRows_20 (lv_at hl 3 rfl) ?_
            refine lv_iconst (v := (3)) hx hb dX4_mixedRows_22 (by decide) ?_
            refine lv_icmp_ge (tgt := 46) hx hb dX4_mixedRows_23 (by decide) (fun hc => ?_) (fun hc => ?_)
            · have h := iteT hc h
              obtain rfl := Option.some.inj h
              exact hK20 _ rfl ls H locs (lv_sub hl [0, 1, 2] rfl) hP hD hS
            · have h := iteF hc h
              refine lv_lload_n hx hb dX4_mixedRows_26 rfl (lv_at hl 1 rfl) ?_
              refine lv_aload_n hx hb dX4_mixedRows_27 rfl (lv_at hl 0 rfl) ?_
              refine lv_iload hx hb dX4_mixedRows_28 (lv_at hl 2 rfl) ?_
              refine lv_iload hx hb dX4_mixedRows_30 (lv_at hl 3 rfl) ?_
              obtain ⟨r31o, er31, h⟩ := obind h
              rcases r31o with r31 | Er31
              · replace h := sumL h
                refine call_R (va_runV (As := [.int y5_5, .int y6_20]) (rest := [.long y3_20]) ⟨hx, hb, hml, hown, hts⟩ (c_X4_row l z0 D t x0 s0 s1 e0 E A B G T μ y5_5 y6_20 _ er31) (kV hts qw547 qw548 qw549 qw1 qw550 ok_X4_row ⟨Nat.le_of_ble_eq_true rfl, Nat.le_of_ble_eq_true rfl⟩) ⟨PR.blind, va_recv hK hP (ci := 5) (q0 := 0) rfl rfl, fun U hU hW => ⟨rfl, by rw [hU]; exact (hC.at hS hZ).warm hW, by rw [hU]; exact hP⟩⟩ rfl rfl hl.1 rfl (lv_room (Nat.le_of_ble_eq_true rfl)) dX4_mixedRows_32 ⟨Nat.le_of_ble_eq_true rfl, Nat.le_of_ble_eq_true rfl⟩) ?_
                refine lv_i2l hx hb dX4_mixedRows_35 rfl ?_
                obtain ⟨r32, er32, h⟩ := obind h
                refine call_R (va_runS (As := [.long y3_20, .long r31.toInt64]) (rest := []) ⟨hx, hb, hml, hown, hts⟩ (c_X4_mixed l z0 D t y3_20 r31.toInt64 _ er32) (kS hts qw539 qw540 qw1 qw541 ok_X4_mixed ⟨Nat.le_of_ble_eq_true rfl, Nat.le_of_ble_eq_true rfl⟩) ⟨PR.blind, fun U hU hW => ⟨rfl, by rw [hU]; exact (hC.at hS hZ).warm hW, by rw [hU]; exact va_P_nil⟩⟩ rfl rfl hl.1 rfl (lv_room (Nat.le_of_ble_eq_true rfl)) dX4_mixedRows_36 ⟨Nat.le_of_ble_eq_true rfl, Nat.le_of_ble_eq_true rfl⟩) ?_
                refine lv_lstore_n (lv' := [(3, .long r32), (0, .ref (x0)), (5, .int y5_5), (6, .int y6_20)]) hx hb dX4_mixedRows_39 rfl hl (by decide) rfl (fun ls hl => ?_)
                obtain ⟨x33, ex33, h⟩ := jlet_some h
                refine lv_iinc (v := x33) (lv' := [(6, .int x33), (3, .long r32), (0, .ref (x0)), (5, .int y5_5)]) hx hb dX4_mixedRows_40 hl (k := 3) rfl (by rw [ex33]; rfl) (by decide) rfl (fun ls hl => ?_)
                refine lv_goto (tgt := 20) hx hb dX4_mixedRows_43 (by decide) ?_
                exact ih _ _ _ h hK20 hR20 ls H locs (lv_sub hl [2, 1, 3, 0] rfl) hP hD hS
              · replace h := sumR h
                have e9 := hR20 _ (Option.some.inj h).symm
                obtain rfl := Sum.inr.inj e9
                refine call_X (vx_runV (As := [.int y5_5, .int y6_20]) (rest := [.long y3_20]) ⟨hx, hb, hml, hown, hts⟩ (x_X4_row l hl9 z0 D t x0 s0 s1 e0 E A B G T μ y5_5 y6_20 _ H.size er31) (kV hts qw547 qw548 qw549 qw1 qw550 ok_X4_row ⟨Nat.le_of_ble_eq_true rfl, Nat.le_of_ble_eq_true rfl⟩) ⟨PM.blind, va_recv hK hP (ci := 5) (q0 := 0) rfl rfl, fun U hU hW => ⟨rfl, by rw [hU]; exact (hC.at hS hZ).warm hW, by rw [hU], by rw [hU]; exact hP, ⟨hD.1, fun _ _ h9 => Or.inl (in_map (L := (XL x0 s0 s1 e0 E A B G T μ)) rfl h9)⟩, fun q hq => hZ q (OA.ofD hD rfl hSz q hq)⟩⟩ rfl rfl hl.1 rfl (lv_room (Nat.le_of_ble_eq_true rfl)) dX4_mixedRows_32 ⟨Nat.le_of_ble_eq_true rfl, Nat.le_of_ble_eq_true rfl⟩) hS (OA.ofD hD rfl hSz) (fun H locs q9 ce9 hP1 hD1 hS hsz1 hk1 hce hcv hcc => ?_)
                have hP : va_P D vwCl (XW x0 s0 s1 e0 E A B G T t μ) H := hP1
                have hD : va_D (OA (XL x0 s0 s1 e0 E A B G T μ) s.heap.size) (XW x0 s0 s1 e0 E A B G T t μ) := hD1.weaken (fun _ q _ h9 => OA.ofD hD rfl hSz q.1 h9)
                exact vx_out (fun x9 hx9 => (hT x9 hx9).elim) hlocks hce hcv hcc (fun t9 h8 _ => XM.mk2 hP hD hS h8) hS.2.2 (Nat.le_of_ble_eq_true rfl) (Nat.le_of_ble_eq_true rfl)
        refine hL20 _ _ _ _ eo30 (fun o30l eq9 ls H locs hl hP hD hS => ?_) (fun r9 eq9 => ?_) ls H locs (lv_sub hl [1, 2, 3, 0] rfl) hP hD hS
        · subst eq9
          replace h := sumL h
          have hSz : s.heap.size ≤ H.size := hS.1
          obtain ⟨x34, ex34, h⟩ := jlet_some h
          refine lv_iinc (v := x34) (lv' := [(5, .int x34), (0, .ref (x0)), (3, .long o30l)]) hx hb dX4_mixedRows_46 hl (k := 2) rfl (by rw [ex34]; rfl) (by decide) rfl (fun ls hl => ?_)
          refine lv_goto (tgt := 5) hx hb dX4_mixedRows_49 (by decide) ?_
          exact ih _ _ _ h hK5 hR5 ls H locs (lv_sub hl [1, 2, 0] rfl) hP hD hS
        · subst eq9
          replace h := sumR h
          exact hR5 _ (Option.some.inj h).symm
  refine hL5 _ _ _ _ eo23 (fun o23l eq9 ls H locs hl hP hD hS => ?_) (fun r9 eq9 => ?_) ls H locs (lv_sub hl [2, 1, 0] rfl) hP hD hS
  · subst eq9
    replace h := sumL h
    have hSz : s.heap.size ≤ H.size := hS.1
    refine lv_lload_n hx hb dX4_mixedRows_52 rfl (lv_at hl 0 rfl) ?_
    exact absurd (Option.some.inj h) (fun z => by cases z)
  · subst eq9
    replace h := sumR h
    exact Option.some.inj h

abbrev rm_X4_requireCell : Room := { frames := 6, cells := 0, slots := 0, locals := 120 }
theorem ok_X4_requireCell : okY yX4_requireCell 2 := ⟨by decide +kernel, by decide +kernel, by decide +kernel⟩
set_option maxHeartbeats 4000000 in
set_option maxRecDepth 100000 in
theorem c_X4_requireCell (l : Launch) (z0 : Nat) (D : va_G) (t : Nat → ClassId) (x0 : Nat) (s0 : Nat) (s1 : Nat) (e0 : Nat) (E : Nat → Nat) (A : Nat → Nat) (B : Nat → Nat) (G : Nat → Nat) (T : va_W) (μ : XS) (a1 : Int32) (a2 : Int32) (res : Unit) (h : f_X4_requireCell μ a1 a2 = some (.inl res)) : Met l yX4_requireCell (ws_ yX4_requireCell cX4_requireCell 3 none) rm_X4_requireCell (PR z0 D t [.ref (x0), .int a1, .int a2] (XW x0 s0 s1 e0 E A B G T t μ)) (QR none) 0 0 FN := by
  refine Met.ofW (cc := cX4_requireCell) (maxL := 3) (ret := none) (by decide) rfl ?_
  intro p e s m args below meth c s₁ Bo hml hv
  obtain ⟨rfl, hC, hP⟩ := hv
  have hx := Bo.exec
  have hb := Bo.bytes
  have hr := Bo.returns
  have hts : ∀ w ∈ LA, w.before _ s = true := fun w hw => atoms_spec (ws := ws_ yX4_requireCell cX4_requireCell 3 none) Bo.pre w (List.mem_cons_of_mem _ hw)
  have hown : s.vm.findClass RX4 = some m.cls := findClass_of_methodNamed Bo.named
  have hlocks := Bo.notSynchronized
  have hK := hC.1
  have hl := lv_entry ([.ref (x0), .int a1, .int a2]) (n := 3) (Nat.le_of_ble_eq_true rfl)
  rw [lg_entry_eq]
  generalize (lg_sl ([.ref (x0), .int a1, .int a2]) ++ List.replicate (3 - (lg_sl ([.ref (x0), .int a1, .int a2])).length) Slot.unset).toArray = ls at hl ⊢
  have hl : lv_has ls 3 [(0, .ref (x0)), (1, .int a1), (2, .int a2)] := hl
  unfold f_X4_requireCell at h
  refine lv_aload_n hx hb dX4_requireCell_0 rfl (lv_at hl 0 rfl) ?_
  refine va_get hx hb hts inX4 hown hK hP 0 rfl rfl 4 (by decide) (hts _ qw161) (fun _ h9 => h9) rfl dX4_requireCell_1 ?_
  refine lv_iload_n hx hb dX4_requireCell_4 rfl (lv_at hl 1 rfl) ?_
  refine lv_iload_n hx hb dX4_requireCell_5 rfl (lv_at hl 2 rfl) ?_
  refine lv_iconst (v := (1)) hx hb dX4_requireCell_6 (by decide) ?_
  refine lv_iconst (v := (1)) hx hb dX4_requireCell_7 (by decide) ?_
  obtain ⟨r1, er1, h⟩ := obind h
  refine call_R (va_runV (As := [.int a1, .int a2, .int (1 : Int32), .int (1 : Int32)]) (rest := []) ⟨hx, hb, hml, hown, hts⟩ (c_X1_hasBlock l z0 D t G ((x_wide μ), (x_high μ), (x_pond μ), (x_walls μ), (x_paved μ), (x_tc μ), (x_flips μ), (x_refused μ), (x_names μ)) a1 a2 (1 : Int32) (1 : Int32) _ er1) (kV hts qw587 qw363 qw364 qw8 qw365 ok_X1_hasBlock ⟨Nat.le_of_ble_eq_true rfl, Nat.le_of_ble_eq_true rfl⟩) ⟨PR.blind, va_recv hK (sub_X_G (μ := μ) hP) (ci := 2) (q0 := 0) rfl rfl, fun U hU hW => ⟨rfl, by rw [hU]; exact hC.warm hW, by rw [hU]; exact (sub_X_G (μ := μ) hP)⟩⟩ rfl rfl hl.1 rfl (lv_room (Nat.le_of_ble_eq_true rfl)) dX4_requireCell_8 ⟨Nat.le_of_ble_eq_true rfl, Nat.le_of_ble_eq_true rfl⟩) ?_
  refine lv_if_ne (tgt := 25) hx hb dX4_requireCell_11 (by decide) (fun hc => ?_) (fun hc => ?_)
  · have h := iteF hc h
    obtain rfl := Sum.inl.inj (Option.some.inj h)
    exact W.vret hx hb hr (fun t ht hW => ⟨rfl, ht⟩) (fun q hq => absurd hq List.not_mem_nil) dX4_requireCell_25
  · have h := iteT hc h
    exact absurd (Option.some.inj h) (fun z => by cases z)

abbrev rx_X4_requireCell : Room := { frames := 6, cells := 1, slots := 6, locals := 120 }
set_option maxHeartbeats 4000000 in
set_option maxRecDepth 100000 in
theorem x_X4_requireCell (l : Launch) (hl9 : l.stackTraces = false) (z0 : Nat) (D : va_G) (t : Nat → ClassId) (x0 : Nat) (s0 : Nat) (s1 : Nat) (e0 : Nat) (E : Nat → Nat) (A : Nat → Nat) (B : Nat → Nat) (G : Nat → Nat) (T : va_W) (μ : XS) (a1 : Int32) (a2 : Int32) (xE : String) (sz : Nat) (h : f_X4_requireCell μ a1 a2 = some (.inr xE)) : vx_Met l yX4_requireCell (ws_ yX4_requireCell cX4_requireCell 3 none) rx_X4_requireCell (PM z0 D t [.ref (x0), .int a1, .int a2] (XW x0 s0 s1 e0 E A B G T t μ) (XL x0 s0 s1 e0 E A B G T μ) sz) (fun _ _ _ _ => False) (XM xE D (XW x0 s0 s1 e0 E A B G T t μ) (XL x0 s0 s1 e0 E A B G T μ) sz) 1 6 (OA (XL x0 s0 s1 e0 E A B G T μ) sz) := by
  refine vx_ofW (cc := cX4_requireCell) (maxL := 3) (ret := none) (by decide) rfl ?_
  intro p e s m args below meth c s₁ Bo hml hT hv
  obtain ⟨rfl, hC, hsz, hP, hD, hZ⟩ := hv
  have hx := Bo.exec
  have hb := Bo.bytes
  have hr := Bo.returns
  have hts : ∀ w ∈ LA, w.before _ s = true := fun w hw => atoms_spec (ws := ws_ yX4_requireCell cX4_requireCell 3 none) Bo.pre w (List.mem_cons_of_mem _ hw)
  have hown : s.vm.findClass RX4 = some m.cls := findClass_of_methodNamed Bo.named
  have hlocks := Bo.notSynchronized
  have hK := hC.1
  subst hsz
  have hl := lv_entry ([.ref (x0), .int a1, .int a2]) (n := 3) (Nat.le_of_ble_eq_true rfl)
  rw [lg_entry_eq]
  generalize (lg_sl ([.ref (x0), .int a1, .int a2]) ++ List.replicate (3 - (lg_sl ([.ref (x0), .int a1, .int a2])).length) Slot.unset).toArray = ls at hl ⊢
  have hl : lv_has ls 3 [(0, .ref (x0)), (1, .int a1), (2, .int a2)] := hl
  suffices K9 : ∀ (H : Heap) (locs : List Loc), va_P D vwCl (XW x0 s0 s1 e0 E A B G T t μ) H → va_S (OA (XL x0 s0 s1 e0 E A B G T μ) s.heap.size) s.heap H locs → W p l e (headSpec (ws_ yX4_requireCell cX4_requireCell 3 none) rx_X4_requireCell).room s m ([.ref (x0), .int a1, .int a2] : List Value).toArray below meth c H locs 0 0 (vx_MQ below (fun _ _ _ _ => False) (XM xE D (XW x0 s0 s1 e0 E A B G T t μ) (XL x0 s0 s1 e0 E A B G T μ) s.heap.size) ([.ref (x0), .int a1, .int a2] : List Value).toArray s 1 6 (OA (XL x0 s0 s1 e0 E A B G T μ) s.heap.size)) (F0 m 0 ls []) from K9 s.heap [] hP va_S.rf
  intro H locs hP hS
  have hSz : s.heap.size ≤ H.size := hS.1
  unfold f_X4_requireCell at h
  refine lv_aload_n hx hb dX4_requireCell_0 rfl (lv_at hl 0 rfl) ?_
  refine va_get hx hb hts inX4 hown hK hP 0 rfl rfl 4 (by decide) (hts _ qw161) (fun _ h9 => h9) rfl dX4_requireCell_1 ?_
  refine lv_iload_n hx hb dX4_requireCell_4 rfl (lv_at hl 1 rfl) ?_
  refine lv_iload_n hx hb dX4_requireCell_5 rfl (lv_at hl 2 rfl) ?_
  refine lv_iconst (v := (1)) hx hb dX4_requireCell_6 (by decide) ?_
  refine lv_iconst (v := (1)) hx hb dX4_requireCell_7 (by decide) ?_
  obtain ⟨r1, er1, h⟩ := obind h
  refine call_R (va_runV (As := [.int a1, .int a2, .int (1 : Int32), .int (1 : Int32)]) (rest := []) ⟨hx, hb, hml, hown, hts⟩ (c_X1_hasBlock l z0 D t G ((x_wide μ), (x_high μ), (x_pond μ), (x_walls μ), (x_paved μ), (x_tc μ), (x_flips μ), (x_refused μ), (x_names μ)) a1 a2 (1 : Int32) (1 : Int32) _ er1) (kV hts qw587 qw363 qw364 qw8 qw365 ok_X1_hasBlock ⟨Nat.le_of_ble_eq_true rfl, Nat.le_of_ble_eq_true rfl⟩) ⟨PR.blind, va_recv hK (sub_X_G (μ := μ) hP) (ci := 2) (q0 := 0) rfl rfl, fun U hU hW => ⟨rfl, by rw [hU]; exact (hC.at hS hZ).warm hW, by rw [hU]; exact (sub_X_G (μ := μ) hP)⟩⟩ rfl rfl hl.1 rfl (lv_room (Nat.le_of_ble_eq_true rfl)) dX4_requireCell_8 ⟨Nat.le_of_ble_eq_true rfl, Nat.le_of_ble_eq_true rfl⟩) ?_
  refine lv_if_ne (tgt := 25) hx hb dX4_requireCell_11 (by decide) (fun hc => ?_) (fun hc => ?_)
  · have h := iteF hc h
    exact absurd (Option.some.inj h) (fun z => by cases z)
  · have h := iteT hc h
    obtain rfl := Sum.inr.inj (Option.some.inj h)
    obtain ⟨sa, hsa⟩ := hC.2.2.2.2.2.1 ("BentGardens", 352, "there is no such cell") (by decide +kernel)
    refine vx_throwSW hx hb hl9 hown (cls := "java/lang/IndexOutOfBoundsException") (names := ["java/lang/RuntimeException", "java/lang/Exception"]) (by decide) (by decide) (hts _ qw551) (hts _ qw20) hsa (at_words hts hC.2.1 at_IndexOutOfBoundsException) ato_IndexOutOfBoundsException (hC.2.2.2.2.2.2.2.1.narrow hZ) (hC.2.2.2.2.2.2.2.2.1.narrow hZ) hS (hl.1.trans hml.symm) dX4_requireCell_14 dX4_requireCell_17 dX4_requireCell_18 dX4_requireCell_21 dX4_requireCell_24 (fun x9 hx9 => (hT x9 hx9).elim) (Nat.le_of_ble_eq_true rfl) (Nat.le_of_ble_eq_true rfl) (Nat.le_of_ble_eq_true rfl) (Nat.le_of_ble_eq_true rfl) hlocks (fun t9 _ h8 h9 => XM.mk hP hD hS h8 h9) hS.2.2 (Nat.le_of_ble_eq_true rfl) (Nat.le_of_ble_eq_true rfl)
