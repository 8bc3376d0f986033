abbrev rm_X4_ways : Room := { frames := 4, cells := 0, slots := 0, locals := 117 }
theorem ok_X4_ways : okY yX4_ways 0 := ⟨by decide +kernel, by decide +kernel, by decide +kernel⟩
set_option maxHeartbeats 4000000 in
set_option maxRecDepth 100000 in
theorem c_X4_ways (l : Launch) (z0 : Nat) (D : va_G) (t : Nat → ClassId) (x0 : Nat) (s0 : Nat) (s1 : Nat) (e0 : Nat) (E : Nat → Nat) (A : Nat → Nat) (B : Nat → Nat) (G : Nat → Nat) (T : va_W) (μ : XS) (res : Int32 × (Nat → Int32) × (Nat → Nat) × (Nat → Nat) × (Int32) × (Nat → Int32) × (Nat → Int32) × (Int32) × (Nat → Int32) × (Nat → Int32)) (sz : Nat) (h : f_X4_ways μ = some res) : Met l yX4_ways (ws_ yX4_ways cX4_ways 1 (some .int)) rm_X4_ways (PM z0 D t [.ref (x0)] (XW x0 s0 s1 e0 E A B G T t μ) (XL x0 s0 s1 e0 E A B G T μ) sz) (QM (some (.int res.1)) D (XW x0 s0 s1 e0 E A B G T t (x_length μ, x_codes μ, x_rest μ, res.2.1, res.2.2.1, res.2.2.2.1, res.2.2.2.2.1, res.2.2.2.2.2.1, res.2.2.2.2.2.2.1, res.2.2.2.2.2.2.2.1, res.2.2.2.2.2.2.2.2.1, res.2.2.2.2.2.2.2.2.2, x_wide μ, x_high μ, x_pond μ, x_walls μ, x_paved μ, x_tc μ, x_flips μ, x_refused μ, x_names μ, x_sl μ, x_lmod μ, x_lsize μ)) (XL x0 s0 s1 e0 E A B G T μ) sz) 0 0 (OA (XL x0 s0 s1 e0 E A B G T μ) sz) := by
  refine Met.ofW (cc := cX4_ways) (maxL := 1) (ret := (some .int)) (by decide) rfl ?_
  intro p e s m args below meth c s₁ Bo hml hv
  obtain ⟨rfl, hC, hsz, hP, hD, hZ⟩ := hv
  have hx := Bo.exec
  have hb := Bo.bytes
  have hr := Bo.returns
  have hts : ∀ w ∈ LA, w.before _ s = true := fun w hw => atoms_spec (ws := ws_ yX4_ways cX4_ways 1 (some .int)) Bo.pre w (List.mem_cons_of_mem _ hw)
  have hown : s.vm.findClass RX4 = some m.cls := findClass_of_methodNamed Bo.named
  have hlocks := Bo.notSynchronized
  have hK := hC.1
  subst hsz
  have hl := lv_entry ([.ref (x0)]) (n := 1) (Nat.le_of_ble_eq_true rfl)
  rw [lg_entry_eq]
  generalize (lg_sl ([.ref (x0)]) ++ List.replicate (1 - (lg_sl ([.ref (x0)])).length) Slot.unset).toArray = ls at hl ⊢
  have hl : lv_has ls 1 [(0, .ref (x0))] := hl
  suffices K9 : ∀ (H : Heap) (locs : List Loc), va_P D vwCl (XW x0 s0 s1 e0 E A B G T t μ) H → va_S (OA (XL x0 s0 s1 e0 E A B G T μ) s.heap.size) s.heap H locs → W p l e (headSpec (ws_ yX4_ways cX4_ways 1 (some .int)) rm_X4_ways).room s m ([.ref (x0)] : List Value).toArray below meth c H locs 0 0 (MQ below (QM (some (.int res.1)) D (XW x0 s0 s1 e0 E A B G T t (x_length μ, x_codes μ, x_rest μ, res.2.1, res.2.2.1, res.2.2.2.1, res.2.2.2.2.1, res.2.2.2.2.2.1, res.2.2.2.2.2.2.1, res.2.2.2.2.2.2.2.1, res.2.2.2.2.2.2.2.2.1, res.2.2.2.2.2.2.2.2.2, x_wide μ, x_high μ, x_pond μ, x_walls μ, x_paved μ, x_tc μ, x_flips μ, x_refused μ, x_names μ, x_sl μ, x_lmod μ, x_lsize μ)) (XL x0 s0 s1 e0 E A B G T μ) s.heap.size) ([.ref (x0)] : List Value).toArray s 0 0 (OA (XL x0 s0 s1 e0 E A B G T μ) s.heap.size)) (F0 m 0 ls []) from K9 s.heap [] hP va_S.rf
  intro H locs hP hS
  have hSz : s.heap.size ≤ H.size := hS.1
  unfold f_X4_ways at h
  refine lv_aload_n hx hb dX4_ways_0 rfl (lv_at hl 0 rfl) ?_
  refine va_get hx hb hts inX4 hown hK hP 0 rfl rfl 3 (by decide) (hts _ qw158) (fun _ h9 => h9) rfl dX4_ways_1 ?_
  refine lv_aload_n hx hb dX4_ways_4 rfl (lv_at hl 0 rfl) ?_
  refine va_get hx hb hts inX4 hown hK hP 0 rfl rfl 4 (by decide) (hts _ qw159) (fun _ h9 => h9) rfl dX4_ways_5 ?_
  obtain ⟨r1, er1, h⟩ := obind h
  refine call_R (va_runV (As := []) (rest := [.ref (A 0)]) ⟨hx, hb, hml, hown, hts⟩ (c_X1_freeCells l z0 D t G ((x_wide μ), (x_high μ), (x_pond μ), (x_walls μ), (x_paved μ), (x_tc μ), (x_flips μ), (x_refused μ), (x_names μ)) _ er1) (kV hts qw236 qw237 qw238 qw8 qw239 ok_X1_freeCells ⟨Nat.le_of_ble_eq_true rfl, Nat.le_of_ble_eq_true rfl⟩) ⟨PR.blind, va_recv hK (sub_X_G (μ := μ) hP) (ci := 2) (q0 := 0) rfl rfl, fun U hU hW => ⟨rfl, by rw [hU]; exact (hC.at hS hZ).warm hW, by rw [hU]; exact (sub_X_G (μ := μ) hP)⟩⟩ rfl rfl hl.1 rfl (lv_room (Nat.le_of_ble_eq_true rfl)) dX4_ways_8 ⟨Nat.le_of_ble_eq_true rfl, Nat.le_of_ble_eq_true rfl⟩) ?_
  obtain ⟨r2, er2, h⟩ := obind h
  refine call_M (va_runV (As := [.long r1]) (rest := []) ⟨hx, hb, hml, hown, hts⟩ (c_X2_waysToPave l z0 D t A B ((x_rest μ), (x_takes μ), (x_u1 μ), (x_u2 μ), (x_hsz μ), (x_hwin μ), (x_hway μ), (x_nsz μ), (x_nwin μ), (x_nway μ)) r1 _ H.size er2) (kV hts qw249 qw250 qw251 qw6 qw252 ok_X2_waysToPave ⟨Nat.le_of_ble_eq_true rfl, Nat.le_of_ble_eq_true rfl⟩) ⟨PM.blind, va_recv hK (sub_X_V (μ := μ) hP) (ci := 3) (q0 := 0) rfl rfl, fun U hU hW => ⟨rfl, by rw [hU]; exact (hC.at hS hZ).warm hW, by rw [hU], by rw [hU]; exact (sub_X_V (μ := μ) hP), ⟨(subD_X_V (μ := μ) hD).1, fun _ _ h9 => Or.inl (in_map (L := (VL A B ((x_rest μ), (x_takes μ), (x_u1 μ), (x_u2 μ), (x_hsz μ), (x_hwin μ), (x_hway μ), (x_nsz μ), (x_nwin μ), (x_nway μ)))) rfl h9)⟩, fun q hq => hZ q (OA.ofD (subD_X_V (μ := μ) hD) rfl hSz q hq)⟩⟩ rfl rfl hl.1 rfl (lv_room (Nat.le_of_ble_eq_true rfl)) dX4_ways_11 ⟨Nat.le_of_ble_eq_true rfl, Nat.le_of_ble_eq_true rfl⟩) hS (OA.ofD (subD_X_V (μ := μ) hD) rfl hSz) (fun H locs hP1 hD1 hS _ hk1 => ?_)
  obtain ⟨hP, hD⟩ := back_X_V (μ := μ) hP hD hk1 (OA.ofD (subD_X_V (μ := μ) hD) rfl hSz) hP1 hD1
  have hP : va_P D vwCl (XW x0 s0 s1 e0 E A B G T t (x_length μ, x_codes μ, x_rest μ, r2.2.1, r2.2.2.1, r2.2.2.2.1, r2.2.2.2.2.1, r2.2.2.2.2.2.1, r2.2.2.2.2.2.2.1, r2.2.2.2.2.2.2.2.1, r2.2.2.2.2.2.2.2.2.1, r2.2.2.2.2.2.2.2.2.2, x_wide μ, x_high μ, x_pond μ, x_walls μ, x_paved μ, x_tc μ, x_flips μ, x_refused μ, x_names μ, x_sl μ, x_lmod μ, x_lsize μ)) H := hP
  have hD : va_D (OA (XL x0 s0 s1 e0 E A B G T μ) s.heap.size) (XW x0 s0 s1 e0 E A B G T t (x_length μ, x_codes μ, x_rest μ, r2.2.1, r2.2.2.1, r2.2.2.2.1, r2.2.2.2.2.1, r2.2.2.2.2.2.1, r2.2.2.2.2.2.2.1, r2.2.2.2.2.2.2.2.1, r2.2.2.2.2.2.2.2.2.1, r2.2.2.2.2.2.2.2.2.2, x_wide μ, x_high μ, x_pond μ, x_walls μ, x_paved μ, x_tc μ, x_flips μ, x_refused μ, x_names μ, x_sl μ, x_lmod μ, x_lsize μ)) := hD
  have hSz : s.heap.size ≤ H.size := hS.1
  obtain rfl := Option.some.inj h
  exact W.iret hx hb hr (fun t ht hW => ⟨rfl, by rw [ht]; exact hP, hD, hS.F ht⟩) hS.2.2 dX4_ways_14

abbrev rm_X4_bestPond : Room := { frames := 5, cells := 0, slots := 0, locals := 135 }
theorem ok_X4_bestPond : okY yX4_bestPond 0 := ⟨by decide +kernel, by decide +kernel, by decide +kernel⟩
set_option maxHeartbeats 4000000 in
set_option maxRecDepth 100000 in
theorem c_X4_bestPond (l : Launch) (z0 : Nat) (D : va_G) (t : Nat → ClassId) (x0 : Nat) (s0 : Nat) (s1 : Nat) (e0 : Nat) (E : Nat → Nat) (A : Nat → Nat) (B : Nat → Nat) (G : Nat → Nat) (T : va_W) (μ : XS) (res : Int32 × (Nat → Nat → Int32) × (Nat → Int32) × (Nat → Nat) × (Nat → Nat) × (Int32) × (Nat → Int32) × (Nat → Int32) × (Int32) × (Nat → Int32) × (Nat → Int32)) (sz : Nat) (h : f_X4_bestPond μ = some res) : Met l yX4_bestPond (ws_ yX4_bestPond cX4_bestPond 2 (some .int)) rm_X4_bestPond (PM z0 D t [.ref (x0)] (XW x0 s0 s1 e0 E A B G T t μ) (XL x0 s0 s1 e0 E A B G T μ) sz) (QM (some (.int res.1)) D (XW x0 s0 s1 e0 E A B G T t (x_length μ, x_codes μ, res.2.1, res.2.2.1, res.2.2.2.1, res.2.2.2.2.1, res.2.2.2.2.2.1, res.2.2.2.2.2.2.1, res.2.2.2.2.2.2.2.1, res.2.2.2.2.2.2.2.2.1, res.2.2.2.2.2.2.2.2.2.1, res.2.2.2.2.2.2.2.2.2.2, x_wide μ, x_high μ, x_pond μ, x_walls μ, x_paved μ, x_tc μ, x_flips μ, x_refused μ, x_names μ, x_sl μ, x_lmod μ, x_lsize μ)) (XL x0 s0 s1 e0 E A B G T μ) sz) 0 0 (OA (XL x0 s0 s1 e0 E A B G T μ) sz) := by
  refine Met.ofW (cc := cX4_bestPond) (maxL := 2) (ret := (some .int)) (by decide) rfl ?_
  intro p e s m args below meth c s₁ Bo hml hv
  obtain ⟨rfl, hC, hsz, hP, hD, hZ⟩ := hv
  have hx := Bo.exec
  have hb := Bo.bytes
  have hr := Bo.returns
  have hts : ∀ w ∈ LA, w.before _ s = true := fun w hw => atoms_spec (ws := ws_ yX4_bestPond cX4_bestPond 2 (some .int)) Bo.pre w (List.mem_cons_of_mem _ hw)
  have hown : s.vm.findClass RX4 = some m.cls := findClass_of_methodNamed Bo.named
  have hlocks := Bo.notSynchronized
  have hK := hC.1
  subst hsz
  have hl := lv_entry ([.ref (x0)]) (n := 2) (Nat.le_of_ble_eq_true rfl)
  rw [lg_entry_eq]
  generalize (lg_sl ([.ref (x0)]) ++ List.replicate (2 - (lg_sl ([.ref (x0)])).length) Slot.unset).toArray = ls at hl ⊢
  have hl : lv_has ls 2 [(0, .ref (x0))] := hl
  suffices K9 : ∀ (H : Heap) (locs : List Loc), va_P D vwCl (XW x0 s0 s1 e0 E A B G T t μ) H → va_S (OA (XL x0 s0 s1 e0 E A B G T μ) s.heap.size) s.heap H locs → W p l e (headSpec (ws_ yX4_bestPond cX4_bestPond 2 (some .int)) rm_X4_bestPond).room s m ([.ref (x0)] : List Value).toArray below meth c H locs 0 0 (MQ below (QM (some (.int res.1)) D (XW x0 s0 s1 e0 E A B G T t (x_length μ, x_codes μ, res.2.1, res.2.2.1, res.2.2.2.1, res.2.2.2.2.1, res.2.2.2.2.2.1, res.2.2.2.2.2.2.1, res.2.2.2.2.2.2.2.1, res.2.2.2.2.2.2.2.2.1, res.2.2.2.2.2.2.2.2.2.1, res.2.2.2.2.2.2.2.2.2.2, x_wide μ, x_high μ, x_pond μ, x_walls μ, x_paved μ, x_tc μ, x_flips μ, x_refused μ, x_names μ, x_sl μ, x_lmod μ, x_lsize μ)) (XL x0 s0 s1 e0 E A B G T μ) s.heap.size) ([.ref (x0)] : List Value).toArray s 0 0 (OA (XL x0 s0 s1 e0 E A B G T μ) s.heap.size)) (F0 m 0 ls []) from K9 s.heap [] hP va_S.rf
  intro H locs hP hS
  have hSz : s.heap.size ≤ H.size := hS.1
  unfold f_X4_bestPond at h
  refine lv_aload_n hx hb dX4_bestPond_0 rfl (lv_at hl 0 rfl) ?_
  refine va_get hx hb hts inX4 hown hK hP 0 rfl rfl 3 (by decide) (hts _ qw158) (fun _ h9 => h9) rfl dX4_bestPond_1 ?_
  refine lv_aload_n hx hb dX4_bestPond_4 rfl (lv_at hl 0 rfl) ?_
  refine va_get hx hb hts inX4 hown hK hP 0 rfl rfl 4 (by decide) (hts _ qw159) (fun _ h9 => h9) rfl dX4_bestPond_5 ?_
  obtain ⟨r1, er1, h⟩ := obind h
  refine call_R (va_runV (As := []) (rest := [.ref (A 0)]) ⟨hx, hb, hml, hown, hts⟩ (c_X1_freeCells l z0 D t G ((x_wide μ), (x_high μ), (x_pond μ), (x_walls μ), (x_paved μ), (x_tc μ), (x_flips μ), (x_refused μ), (x_names μ)) _ er1) (kV hts qw236 qw237 qw238 qw8 qw239 ok_X1_freeCells ⟨Nat.le_of_ble_eq_true rfl, Nat.le_of_ble_eq_true rfl⟩) ⟨PR.blind, va_recv hK (sub_X_G (μ := μ) hP) (ci := 2) (q0 := 0) rfl rfl, fun U hU hW => ⟨rfl, by rw [hU]; exact (hC.at hS hZ).warm hW, by rw [hU]; exact (sub_X_G (μ := μ) hP)⟩⟩ rfl rfl hl.1 rfl (lv_room (Nat.le_of_ble_eq_true rfl)) dX4_bestPond_8 ⟨Nat.le_of_ble_eq_true rfl, Nat.le_of_ble_eq_true rfl⟩) ?_
  refine lv_aload_n hx hb dX4_bestPond_11 rfl (lv_at hl 0 rfl) ?_
  refine va_get hx hb hts inX4 hown hK hP 0 rfl rfl 4 (by decide) (hts _ qw159) (fun _ h9 => h9) rfl dX4_bestPond_12 ?_
  obtain ⟨r2, er2, h⟩ := obind h
  refine call_R (va_runV (As := []) (rest := [.long r1, .ref (A 0)]) ⟨hx, hb, hml, hown, hts⟩ (c_X1_pondCell l z0 D t G ((x_wide μ), (x_high μ), (x_pond μ), (x_walls μ), (x_paved μ), (x_tc μ), (x_flips μ), (x_refused μ), (x_names μ)) _ er2) (kV hts qw332 qw245 qw246 qw8 qw247 ok_X1_pondCell ⟨Nat.le_of_ble_eq_true rfl, Nat.le_of_ble_eq_true rfl⟩) ⟨PR.blind, va_recv hK (sub_X_G (μ := μ) hP) (ci := 2) (q0 := 0) rfl rfl, fun U hU hW => ⟨rfl, by rw [hU]; exact (hC.at hS hZ).warm hW, by rw [hU]; exact (sub_X_G (μ := μ) hP)⟩⟩ rfl rfl hl.1 rfl (lv_room (Nat.le_of_ble_eq_true rfl)) dX4_bestPond_15 ⟨Nat.le_of_ble_eq_true rfl, Nat.le_of_ble_eq_true rfl⟩) ?_
  refine lv_lor hx hb dX4_bestPond_18 ?_
  obtain ⟨r3, er3, h⟩ := obind h
  refine call_M (va_runV (As := [.long (r1 ||| r2)]) (rest := []) ⟨hx, hb, hml, hown, hts⟩ (c_X2_bestGap l z0 D t A B ((x_rest μ), (x_takes μ), (x_u1 μ), (x_u2 μ), (x_hsz μ), (x_hwin μ), (x_hway μ), (x_nsz μ), (x_nwin μ), (x_nway μ)) (r1 ||| r2) _ H.size er3) (kV hts qw333 qw334 qw335 qw6 qw336 ok_X2_bestGap ⟨Nat.le_of_ble_eq_true rfl, Nat.le_of_ble_eq_true rfl⟩) ⟨PM.blind, va_recv hK (sub_X_V (μ := μ) hP) (ci := 3) (q0 := 0) rfl rfl, fun U hU hW => ⟨rfl, by rw [hU]; exact (hC.at hS hZ).warm hW, by rw [hU], by rw [hU]; exact (sub_X_V (μ := μ) hP), ⟨(subD_X_V (μ := μ) hD).1, fun _ _ h9 => Or.inl (in_map (L := (VL A B ((x_rest μ), (x_takes μ), (x_u1 μ), (x_u2 μ), (x_hsz μ), (x_hwin μ), (x_hway μ), (x_nsz μ), (x_nwin μ), (x_nway μ)))) rfl h9)⟩, fun q hq => hZ q (OA.ofD (subD_X_V (μ := μ) hD) rfl hSz q hq)⟩⟩ rfl rfl hl.1 rfl (lv_room (Nat.le_of_ble_eq_true rfl)) dX4_bestPond_19 ⟨Nat.le_of_ble_eq_true rfl, Nat.le_of_ble_eq_true rfl⟩) hS (OA.ofD (subD_X_V (μ := μ) hD) rfl hSz) (fun H locs hP1 hD1 hS _ hk1 => ?_)
  obtain ⟨hP, hD⟩ := back_X_V (μ := μ) hP hD hk1 (OA.ofD (subD_X_V (μ := μ) hD) rfl hSz) hP1 hD1
  have hP : va_P D vwCl (XW x0 s0 s1 e0 E A B G T t (x_length μ, x_codes μ, r3.2.1, r3.2.2.1, r3.2.2.2.1, r3.2.2.2.2.1, r3.2.2.2.2.2.1, r3.2.2.2.2.2.2.1, r3.2.2.2.2.2.2.2.1, r3.2.2.2.2.2.2.2.2.1, r3.2.2.2.2.2.2.2.2.2.1, r3.2.2.2.2.2.2.2.2.2.2, x_wide μ, x_high μ, x_pond μ, x_walls μ, x_paved μ, x_tc μ, x_flips μ, x_refused μ, x_names μ, x_sl μ, x_lmod μ, x_lsize μ)) H := hP
  have hD : va_D (OA (XL x0 s0 s1 e0 E A B G T μ) s.heap.size) (XW x0 s0 s1 e0 E A B G T t (x_length μ, x_codes μ, r3.2.1, r3.2.2.1, r3.2.2.2.1, r3.2.2.2.2.1, r3.2.2.2.2.2.1, r3.2.2.2.2.2.2.1, r3.2.2.2.2.2.2.2.1, r3.2.2.2.2.2.2.2.2.1, r3.2.2.2.2.2.2.2.2.2.1, r3.2.2.2.2.2.2.2.2.2.2, x_wide μ, x_high μ, x_pond μ, x_walls μ, x_paved μ, x_tc μ, x_flips μ, x_refused μ, x_names μ, x_sl μ, x_lmod μ, x_lsize μ)) := hD
  have hSz : s.heap.size ≤ H.size := hS.1
  refine lv_istore_n (lv' := [(1, .int r3.1), (0, .ref (x0))]) hx hb dX4_bestPond_22 rfl hl (by decide) rfl (fun ls hl => ?_)
  refine lv_iload_n hx hb dX4_bestPond_23 rfl (lv_at hl 0 rfl) ?_
  refine lv_iconst (v := (-1)) hx hb dX4_bestPond_24 (by decide) ?_
  refine lv_icmp_ne (tgt := 32) hx hb dX4_bestPond_25 (by decide) (fun hc => ?_) (fun hc => ?_)
  · have h := iteF hc h
    refine lv_iload_n hx hb dX4_bestPond_32 rfl (lv_at hl 0 rfl) ?_
    obtain ⟨r4, er4, h⟩ := obind h
    refine call_R (va_runS (As := [.int r3.1]) (rest := []) ⟨hx, hb, hml, hown, hts⟩ (c_X4_cellName l z0 D t r3.1 _ er4) (kS hts qw370 qw371 qw1 qw372 ok_X4_cellName ⟨Nat.le_of_ble_eq_true rfl, Nat.le_of_ble_eq_true rfl⟩) ⟨PR.blind, fun U hU hW => ⟨rfl, by rw [hU]; exact (hC.at hS hZ).warm hW, by rw [hU]; exact va_P_nil⟩⟩ rfl rfl hl.1 rfl (lv_room (Nat.le_of_ble_eq_true rfl)) dX4_bestPond_33 ⟨Nat.le_of_ble_eq_true rfl, Nat.le_of_ble_eq_true rfl⟩) ?_
    obtain rfl := Option.some.inj h
    exact W.iret hx hb hr (fun t ht hW => ⟨rfl, by rw [ht]; exact hP, hD, hS.F ht⟩) hS.2.2 dX4_bestPond_36
  · have h := iteT hc h
    refine lv_iconst (v := (-1)) hx hb dX4_bestPond_28 (by decide) ?_
    refine lv_goto (tgt := 36) hx hb dX4_bestPond_29 (by decide) ?_
    obtain rfl := Option.some.inj h
    exact W.iret hx hb hr (fun t ht hW => ⟨rfl, by rw [ht]; exact hP, hD, hS.F ht⟩) hS.2.2 dX4_bestPond_36

abbrev rm_Jx4a65c_size_8abf5 : Room := { frames := 0, cells := 0, slots := 0, locals := 0 }
theorem ok_Jx4a65c_size_8abf5 : okY yJx4a65c_size_8abf5 0 := ⟨by decide +kernel, by decide +kernel, by decide +kernel⟩
set_option maxHeartbeats 4000000 in
set_option maxRecDepth 100000 in
theorem c_Jx4a65c_size_8abf5 (l : Launch) (z0 : Nat) (D : va_G) (t : Nat → ClassId) (s0 : Nat) (e0 : Nat) (μ : LSS) (res : Int32) (h : f_Jx4a65c_size_8abf5 μ = some res) : Met l yJx4a65c_size_8abf5 (ws_ yJx4a65c_size_8abf5 cJx4a65c_size_8abf5 1 (some .int)) rm_Jx4a65c_size_8abf5 (PR z0 D t [.ref (s0)] (LSW s0 e0 t μ)) (QR (some (.int res))) 0 0 FN := by
  refine Met.ofW (cc := cJx4a65c_size_8abf5) (maxL := 1) (ret := (some .int)) (by decide) rfl ?_
  intro p e s m args below meth c s₁ Bo hml hv
  obtain ⟨rfl, hC, hP⟩ := hv
  have hx := Bo.exec
  have hb := Bo.bytes
  have hr := Bo.returns
  have hts : ∀ w ∈ LA, w.before _ s = true := fun w hw => atoms_spec (ws := ws_ yJx4a65c_size_8abf5 cJx4a65c_size_8abf5 1 (some .int)) Bo.pre w (List.mem_cons_of_mem _ hw)
  have hown : s.vm.findClass RJx4a65c = some m.cls := findClass_of_methodNamed Bo.named
  have hlocks := Bo.notSynchronized
  have hK := hC.1
  have hl := lv_entry ([.ref (s0)]) (n := 1) (Nat.le_of_ble_eq_true rfl)
  rw [lg_entry_eq]
  generalize (lg_sl ([.ref (s0)]) ++ List.replicate (1 - (lg_sl ([.ref (s0)])).length) Slot.unset).toArray = ls at hl ⊢
  have hl : lv_has ls 1 [(0, .ref (s0))] := hl
  unfold f_Jx4a65c_size_8abf5 at h
  refine lv_aload_n hx hb dJx4a65c_size_8abf5_0 rfl (lv_at hl 0 rfl) ?_
  refine va_get hx hb hts inJx4a65c hown hK hP 0 rfl rfl 2 (by decide) (hts _ qw48) (fun _ h9 => h9) rfl dJx4a65c_size_8abf5_1 ?_
  obtain rfl := Option.some.inj h
  exact W.iret hx hb hr (fun t ht hW => ⟨rfl, ht⟩) (fun q hq => absurd hq List.not_mem_nil) dJx4a65c_size_8abf5_4

abbrev rm_J3_checkIndex_8e157 : Room := { frames := 1, cells := 0, slots := 0, locals := 40 }
theorem ok_J3_checkIndex_8e157 : okY yJ3_checkIndex_8e157 3 := ⟨by decide +kernel, by decide +kernel, by decide +kernel⟩
set_option maxHeartbeats 4000000 in
set_option maxRecDepth 100000 in
theorem c_J3_checkIndex_8e157 (l : Launch) (z0 : Nat) (D : va_G) (t : Nat → ClassId) (a1 : Int32) (a2 : Int32) (res : Int32) (h : f_J3_checkIndex_8e157 a1 a2 = some res) : Met l yJ3_checkIndex_8e157 (ws_ yJ3_checkIndex_8e157 cJ3_checkIndex_8e157 3 (some .int)) rm_J3_checkIndex_8e157 (PR z0 D t [.int a1, .int a2, .null] []) (QR (some (.int res))) 0 0 FN := by
  refine Met.ofW (cc := cJ3_checkIndex_8e157) (maxL := 3) (ret := (some .int)) (by decide) rfl ?_
  intro p e s m args below meth c s₁ Bo hml hv
  obtain ⟨rfl, hC, hP⟩ := hv
  have hx := Bo.exec
  have hb := Bo.bytes
  have hr := Bo.returns
  have hts : ∀ w ∈ LA, w.before _ s = true := fun w hw => atoms_spec (ws := ws_ yJ3_checkIndex_8e157 cJ3_checkIndex_8e157 3 (some .int)) Bo.pre w (List.mem_cons_of_mem _ hw)
  have hown : s.vm.findClass RJ3 = some m.cls := findClass_of_methodNamed Bo.named
  have hlocks := Bo.notSynchronized
  have hK := hC.1
  have hl := lv_entry ([.int a1, .int a2, .null]) (n := 3) (Nat.le_of_ble_eq_true rfl)
  rw [lg_entry_eq]
  generalize (lg_sl ([.int a1, .int a2, .null]) ++ List.replicate (3 - (lg_sl ([.int a1, .int a2, .null])).length) Slot.unset).toArray = ls at hl ⊢
  have hl : lv_has ls 3 [(0, .int a1), (1, .int a2), (2, .null)] := hl
  unfold f_J3_checkIndex_8e157 at h
  refine lv_iload_n hx hb dJ3_checkIndex_8e157_0 rfl (lv_at hl 0 rfl) ?_
  refine lv_if_lt (tgt := 9) hx hb dJ3_checkIndex_8e157_1 (by decide) (fun hc => ?_) (fun hc => ?_)
  · have h := iteT hc h
    cases h
  · have h := iteF hc h
    refine lv_iload_n hx hb dJ3_checkIndex_8e157_4 rfl (lv_at hl 0 rfl) ?_
    refine lv_iload_n hx hb dJ3_checkIndex_8e157_5 rfl (lv_at hl 1 rfl) ?_
    refine lv_icmp_lt (tgt := 16) hx hb dJ3_checkIndex_8e157_6 (by decide) (fun hc => ?_) (fun hc => ?_)
    · have h := iteT hc h
      refine lv_iload_n hx hb dJ3_checkIndex_8e157_16 rfl (lv_at hl 0 rfl) ?_
      obtain rfl := Option.some.inj h
      exact W.iret hx hb hr (fun t ht hW => ⟨rfl, ht⟩) (fun q hq => absurd hq List.not_mem_nil) dJ3_checkIndex_8e157_17
    · have h := iteF hc h
      cases h

abbrev rm_J15_checkIndex_7cf53 : Room := { frames := 2, cells := 0, slots := 0, locals := 62 }
theorem ok_J15_checkIndex_7cf53 : okY yJ15_checkIndex_7cf53 2 := ⟨by decide +kernel, by decide +kernel, by decide +kernel⟩
set_option maxHeartbeats 4000000 in
set_option maxRecDepth 100000 in
theorem c_J15_checkIndex_7cf53 (l : Launch) (z0 : Nat) (D : va_G) (t : Nat → ClassId) (a1 : Int32) (a2 : Int32) (res : Int32) (h : f_J15_checkIndex_7cf53 a1 a2 = some res) : Met l yJ15_checkIndex_7cf53 (ws_ yJ15_checkIndex_7cf53 cJ15_checkIndex_7cf53 2 (some .int)) rm_J15_checkIndex_7cf53 (PR z0 D t [.int a1, .int a2] []) (QR (some (.int res))) 0 0 FN := by
  refine Met.ofW (cc := cJ15_checkIndex_7cf53) (maxL := 2) (ret := (some .int)) (by decide) rfl ?_
  intro p e s m args below meth c s₁ Bo hml hv
  obtain ⟨rfl, hC, hP⟩ := hv
  have hx := Bo.exec
  have hb := Bo.bytes
  have hr := Bo.returns
  have hts : ∀ w ∈ LA, w.before _ s = true := fun w hw => atoms_spec (ws := ws_ yJ15_checkIndex_7cf53 cJ15_checkIndex_7cf53 2 (some .int)) Bo.pre w (List.mem_cons_of_mem _ hw)
  have hown : s.vm.findClass RJ15 = some m.cls := findClass_of_methodNamed Bo.named
  have hlocks := Bo.notSynchronized
  have hK := hC.1
  have hl := lv_entry ([.int a1, .int a2]) (n := 2) (Nat.le_of_ble_eq_true rfl)
  rw [lg_entry_eq]
  generalize (lg_sl ([.int a1, .int a2]) ++ List.replicate (2 - (lg_sl ([.int a1, .int a2])).length) Slot.unset).toArray = ls at hl ⊢
  have hl : lv_has ls 2 [(0, .int a1), (1, .int a2)] := hl
  unfold f_J15_checkIndex_7cf53 at h
  refine lv_iload_n hx hb dJ15_checkIndex_7cf53_0 rfl (lv_at hl 0 rfl) ?_
  refine lv_iload_n hx hb dJ15_checkIndex_7cf53_1 rfl (lv_at hl 1 rfl) ?_
  refine lv_null hx hb dJ15_checkIndex_7cf53_2 ?_
  obtain ⟨r1, er1, h⟩ := obind h
  refine call_R (va_runS (As := [.int a1, .int a2, .null]) (rest := []) ⟨hx, hb, hml, hown, hts⟩ (c_J3_checkIndex_8e157 l z0 D t a1 a2 _ er1) (kS hts qw472 qw473 qw14 qw474 ok_J3_checkIndex_8e157 ⟨Nat.le_of_ble_eq_true rfl, Nat.le_of_ble_eq_true rfl⟩) ⟨PR.blind, fun U hU hW => ⟨rfl, by rw [hU]; exact hC.warm hW, by rw [hU]; exact va_P_nil⟩⟩ rfl rfl hl.1 rfl (lv_room (Nat.le_of_ble_eq_true rfl)) dJ15_checkIndex_7cf53_3 ⟨Nat.le_of_ble_eq_true rfl, Nat.le_of_ble_eq_true rfl⟩) ?_
  obtain rfl := Option.some.inj h
  exact W.iret hx hb hr (fun t ht hW => ⟨rfl, ht⟩) (fun q hq => absurd hq List.not_mem_nil) dJ15_checkIndex_7cf53_6

abbrev rm_X4_requireCell : Room := { frames := 6, cells := 0, slots := 0, locals := 120 }
theorem ok_X4_requireCell : okY yX4_requireCell 2 := ⟨by decide +kernel, by decide +kernel, by decide +kernel⟩
set_option maxHeartbeats 4000000 in
set_option maxRecDepth 100000 in
theorem c_X4_requireCell (l : Launch) (z0 : Nat) (D : va_G) (t : Nat → ClassId) (x0 : Nat) (s0 : Nat) (s1 : Nat) (e0 : Nat) (E : Nat → Nat) (A : Nat → Nat) (B : Nat → Nat) (G : Nat → Nat) (T : va_W) (μ : XS) (a1 : Int32) (a2 : Int32) (res : Unit) (h : f_X4_requireCell μ a1 a2 = some (.inl res)) : Met l yX4_requireCell (ws_ yX4_requireCell cX4_requireCell 3 none) rm_X4_requireCell (PR z0 D t [.ref (x0), .int a1, .int a2] (XW x0 s0 s1 e0 E A B G T t μ)) (QR none) 0 0 FN := by
  refine Met.ofW (cc := cX4_requireCell) (maxL := 3) (ret := none) (by decide) rfl ?_
  intro p e s m args below meth c s₁ Bo hml hv
  obtain ⟨rfl, hC, hP⟩ := hv
  have hx := Bo.exec
  have hb := Bo.bytes
  have hr := Bo.returns
  have hts : ∀ w ∈ LA, w.before _ s = true := fun w hw => atoms_spec (ws := ws_ yX4_requireCell cX4_requireCell 3 none) Bo.pre w (List.mem_cons_of_mem _ hw)
  have hown : s.vm.findClass RX4 = some m.cls := findClass_of_methodNamed Bo.named
  have hlocks := Bo.notSynchronized
  have hK := hC.1
  have hl := lv_entry ([.ref (x0), .int a1, .int a2]) (n := 3) (Nat.le_of_ble_eq_true rfl)
  rw [lg_entry_eq]
  generalize (lg_sl ([.ref (x0), .int a1, .int a2]) ++ List.replicate (3 - (lg_sl ([.ref (x0), .int a1, .int a2])).length) Slot.unset).toArray = ls at hl ⊢
  have hl : lv_has ls 3 [(0, .ref (x0)), (1, .int a1), (2, .int a2)] := hl
  unfold f_X4_requireCell at h
  refine lv_aload_n hx hb dX4_requireCell_0 rfl (lv_at hl 0 rfl) ?_
  refine va_get hx hb hts inX4 hown hK hP 0 rfl rfl 4 (by decide) (hts _ qw159) (fun _ h9 => h9) rfl dX4_requireCell_1 ?_
  refine lv_iload_n hx hb dX4_requireCell_4 rfl (lv_at hl 1 rfl) ?_
  refine lv_iload_n hx hb dX4_requireCell_5 rfl (lv_at hl 2 rfl) ?_
  refine lv_iconst (v := (1)) hx hb dX4_requireCell_6 (by decide) ?_
  refine lv_iconst (v := (1)) hx hb dX4_requireCell_7 (by decide) ?_
  obtain ⟨r1, er1, h⟩ := obind h
  refine call_R (va_runV (As := [.int a1, .int a2, .int (1 : Int32), .int (1 : Int32)]) (rest := []) ⟨hx, hb, hml, hown, hts⟩ (c_X1_hasBlock l z0 D t G ((x_wide μ), (x_high μ), (x_pond μ), (x_walls μ), (x_paved μ), (x_tc μ), (x_flips μ), (x_refused μ), (x_names μ)) a1 a2 (1 : Int32) (1 : Int32) _ er1) (kV hts qw558 qw559 qw560 qw8 qw561 ok_X1_hasBlock ⟨Nat.le_of_ble_eq_true rfl, Nat.le_of_ble_eq_true rfl⟩) ⟨PR.blind, va_recv hK (sub_X_G (μ := μ) hP) (ci := 2) (q0 := 0) rfl rfl, fun U hU hW => ⟨rfl, by rw [hU]; exact hC.warm hW, by rw [hU]; exact (sub_X_G (μ := μ) hP)⟩⟩ rfl rfl hl.1 rfl (lv_room (Nat.le_of_ble_eq_true rfl)) dX4_requireCell_8 ⟨Nat.le_of_ble_eq_true rfl, Nat.le_of_ble_eq_true rfl⟩) ?_
  refine lv_if_ne (tgt := 25) hx hb dX4_requireCell_11 (by decide) (fun hc => ?_) (fun hc => ?_)
  · have h := iteF hc h
    obtain rfl := Sum.inl.inj (Option.some.inj h)
    exact W.vret hx hb hr (fun t ht hW => ⟨rfl, ht⟩) (fun q hq => absurd hq List.not_mem_nil) dX4_requireCell_25
  · have h := iteT hc h
    exact absurd (Option.some.inj h) (fun z => by cases z)

abbrev rx_X4_requireCell : Room := { frames := 6, cells := 1, slots := 6, locals := 120 }
set_option maxHeartbeats 4000000 in
set_option maxRecDepth 100000 in
theorem x_X4_requireCell (l : Launch) (hl9 : l.stackTraces = false) (z0 : Nat) (D : va_G) (t : Nat → ClassId) (x0 : Nat) (s0 : Nat) (s1 : Nat) (e0 : Nat) (E : Nat → Nat) (A : Nat → Nat) (B : Nat → Nat) (G : Nat → Nat) (T : va_W) (μ : XS) (a1 : Int32) (a2 : Int32) (xE : String) (sz : Nat) (h : f_X4_requireCell μ a1 a2 = some (.inr xE)) : vx_Met l yX4_requireCell (ws_ yX4_requireCell cX4_requireCell 3 none) rx_X4_requireCell (PM z0 D t [.ref (x0), .int a1, .int a2] (XW x0 s0 s1 e0 E A B G T t μ) (XL x0 s0 s1 e0 E A B G T μ) sz) (fun _ _ _ _ => False) (XM xE D (XW x0 s0 s1 e0 E A B G T t μ) (XL x0 s0 s1 e0 E A B G T μ) sz) 1 6 (OA (XL x0 s0 s1 e0 E A B G T μ) sz) := by
  refine vx_ofW (cc := cX4_requireCell) (maxL := 3) (ret := none) (by decide) rfl ?_
  intro p e s m args below meth c s₁ Bo hml hT hv
  obtain ⟨rfl, hC, hsz, hP, hD, hZ⟩ := hv
  have hx := Bo.exec
  have hb := Bo.bytes
  have hr := Bo.returns
  have hts : ∀ w ∈ LA, w.before _ s = true := fun w hw => atoms_spec (ws := ws_ yX4_requireCell cX4_requireCell 3 none) Bo.pre w (List.mem_cons_of_mem _ hw)
  have hown : s.vm.findClass RX4 = some m.cls := findClass_of_methodNamed Bo.named
  have hlocks := Bo.notSynchronized
  have hK := hC.1
  subst hsz
  have hl := lv_entry ([.ref (x0), .int a1, .int a2]) (n := 3) (Nat.le_of_ble_eq_true rfl)
  rw [lg_entry_eq]
  generalize (lg_sl ([.ref (x0), .int a1, .int a2]) ++ List.replicate (3 - (lg_sl ([.ref (x0), .int a1, .int a2])).length) Slot.unset).toArray = ls at hl ⊢
  have hl : lv_has ls 3 [(0, .ref (x0)), (1, .int a1), (2, .int a2)] := hl
  suffices K9 : ∀ (H : Heap) (locs : List Loc), va_P D vwCl (XW x0 s0 s1 e0 E A B G T t μ) H → va_S (OA (XL x0 s0 s1 e0 E A B G T μ) s.heap.size) s.heap H locs → W p l e (headSpec (ws_ yX4_requireCell cX4_requireCell 3 none) rx_X4_requireCell).room s m ([.ref (x0), .int a1, .int a2] : List Value).toArray below meth c H locs 0 0 (vx_MQ below (fun _ _ _ _ => False) (XM xE D (XW x0 s0 s1 e0 E A B G T t μ) (XL x0 s0 s1 e0 E A B G T μ) s.heap.size) ([.ref (x0), .int a1, .int a2] : List Value).toArray s 1 6 (OA (XL x0 s0 s1 e0 E A B G T μ) s.heap.size)) (F0 m 0 ls []) from K9 s.heap [] hP va_S.rf
  intro H locs hP hS
  have hSz : s.heap.size ≤ H.size := hS.1
  unfold f_X4_requireCell at h
  refine lv_aload_n hx hb dX4_requireCell_0 rfl (lv_at hl 0 rfl) ?_
  refine va_get hx hb hts inX4 hown hK hP 0 rfl rfl 4 (by decide) (hts _ qw159) (fun _ h9 => h9) rfl dX4_requireCell_1 ?_
  refine lv_iload_n hx hb dX4_requireCell_4 rfl (lv_at hl 1 rfl) ?_
  refine lv_iload_n hx hb dX4_requireCell_5 rfl (lv_at hl 2 rfl) ?_
  refine lv_iconst (v := (1)) hx hb dX4_requireCell_6 (by decide) ?_
  refine lv_iconst (v := (1)) hx hb dX4_requireCell_7 (by decide) ?_
  obtain ⟨r1, er1, h⟩ := obind h
  refine call_R (va_runV (As := [.int a1, .int a2, .int (1 : Int32), .int (1 : Int32)]) (rest := []) ⟨hx, hb, hml, hown, hts⟩ (c_X1_hasBlock l z0 D t G ((x_wide μ), (x_high μ), (x_pond μ), (x_walls μ), (x_paved μ), (x_tc μ), (x_flips μ), (x_refused μ), (x_names μ)) a1 a2 (1 : Int32) (1 : Int32) _ er1) (kV hts qw558 qw559 qw560 qw8 qw561 ok_X1_hasBlock ⟨Nat.le_of_ble_eq_true rfl, Nat.le_of_ble_eq_true rfl⟩) ⟨PR.blind, va_recv hK (sub_X_G (μ := μ) hP) (ci := 2) (q0 := 0) rfl rfl, fun U hU hW => ⟨rfl, by rw [hU]; exact (hC.at hS hZ).warm hW, by rw [hU]; exact (sub_X_G (μ := μ) hP)⟩⟩ rfl rfl hl.1 rfl (lv_room (Nat.le_of_ble_eq_true rfl)) dX4_requireCell_8 ⟨Nat.le_of_ble_eq_true rfl, Nat.le_of_ble_eq_true rfl⟩) ?_
  refine lv_if_ne (tgt := 25) hx hb dX4_requireCell_11 (by decide) (fun hc => ?_) (fun hc => ?_)
  · have h := iteF hc h
    exact absurd (Option.some.inj h) (fun z => by cases z)
  · have h := iteT hc h
    obtain rfl := Sum.inr.inj (Option.some.inj h)
    obtain ⟨sa, hsa⟩ := hC.2.2.2.2.2.1 ("BentGardens", 352, "there is no such cell") (by decide +kernel)
    refine vx_throwSW hx hb hl9 hown (cls := "java/lang/IndexOutOfBoundsException") (names := ["java/lang/RuntimeException", "java/lang/Exception"]) (by decide) (by decide) (hts _ qw562) (hts _ qw24) hsa (at_words hts hC.2.1 at_IndexOutOfBoundsException) ato_IndexOutOfBoundsException (hC.2.2.2.2.2.2.2.1.narrow hZ) (hC.2.2.2.2.2.2.2.2.1.narrow hZ) hS (hl.1.trans hml.symm) dX4_requireCell_14 dX4_requireCell_17 dX4_requireCell_18 dX4_requireCell_21 dX4_requireCell_24 (fun x9 hx9 => (hT x9 hx9).elim) (Nat.le_of_ble_eq_true rfl) (Nat.le_of_ble_eq_true rfl) (Nat.le_of_ble_eq_true rfl) (Nat.le_of_ble_eq_true rfl) hlocks (fun t9 _ h8 h9 => XM.mk hP hD hS h8 h9) hS.2.2 (Nat.le_of_ble_eq_true rfl) (Nat.le_of_ble_eq_true rfl)

abbrev rm_X4_requireTurn : Room := { frames := 6, cells := 0, slots := 0, locals := 120 }
theorem ok_X4_requireTurn : okY yX4_requireTurn 1 := ⟨by decide +kernel, by decide +kernel, by decide +kernel⟩
set_option maxHeartbeats 4000000 in
set_option maxRecDepth 100000 in
theorem c_X4_requireTurn (l : Launch) (z0 : Nat) (D : va_G) (t : Nat → ClassId) (a1 : Int32) (res : Unit) (h : f_X4_requireTurn a1 = some (.inl res)) : Met l yX4_requireTurn (ws_ yX4_requireTurn cX4_requireTurn 1 none) rm_X4_requireTurn (PR z0 D t [.int a1] []) (QR none) 0 0 FN := by
  refine Met.ofW (cc := cX4_requireTurn) (maxL := 1) (ret := none) (by decide) rfl ?_
  intro p e s m args below meth c s₁ Bo hml hv
  obtain ⟨rfl, hC, hP⟩ := hv
  have hx := Bo.exec
  have hb := Bo.bytes
  have hr := Bo.returns
  have hts : ∀ w ∈ LA, w.before _ s = true := fun w hw => atoms_spec (ws := ws_ yX4_requireTurn cX4_requireTurn 1 none) Bo.pre w (List.mem_cons_of_mem _ hw)
  have hown : s.vm.findClass RX4 = some m.cls := findClass_of_methodNamed Bo.named
  have hlocks := Bo.notSynchronized
  have hK := hC.1
  have hl := lv_entry ([.int a1]) (n := 1) (Nat.le_of_ble_eq_true rfl)
  rw [lg_entry_eq]
  generalize (lg_sl ([.int a1]) ++ List.replicate (1 - (lg_sl ([.int a1])).length) Slot.unset).toArray = ls at hl ⊢
  have hl : lv_has ls 1 [(0, .int a1)] := hl
  unfold f_X4_requireTurn at h
  refine lv_iload_n hx hb dX4_requireTurn_0 rfl (lv_at hl 0 rfl) ?_
  refine lv_if_lt (tgt := 9) hx hb dX4_requireTurn_1 (by decide) (fun hc => ?_) (fun hc => ?_)
  · have h := iteT hc h
    exact absurd (Option.some.inj h) (fun z => by cases z)
  · have h := iteF hc h
    refine lv_iload_n hx hb dX4_requireTurn_4 rfl (lv_at hl 0 rfl) ?_
    refine lv_iconst (v := (4)) hx hb dX4_requireTurn_5 (by decide) ?_
    refine lv_icmp_lt (tgt := 20) hx hb dX4_requireTurn_6 (by decide) (fun hc => ?_) (fun hc => ?_)
    · have h := iteT hc h
      obtain rfl := Sum.inl.inj (Option.some.inj h)
      exact W.vret hx hb hr (fun t ht hW => ⟨rfl, ht⟩) (fun q hq => absurd hq List.not_mem_nil) dX4_requireTurn_20
    · have h := iteF hc h
      exact absurd (Option.some.inj h) (fun z => by cases z)

abbrev rx_X4_requireTurn : Room := { frames := 6, cells := 1, slots := 6, locals := 120 }
set_option maxHeartbeats 4000000 in
set_option maxRecDepth 100000 in
theorem x_X4_requireTurn (l : Launch) (hl9 : l.stackTraces = false) (z0 : Nat) (D : va_G) (t : Nat → ClassId) (a1 : Int32) (xE : String) (sz : Nat) (h : f_X4_requireTurn a1 = some (.inr xE)) : vx_Met l yX4_requireTurn (ws_ yX4_requireTurn cX4_requireTurn 1 none) rx_X4_requireTurn (PM z0 D t [.int a1] [] [] sz) (fun _ _ _ _ => False) (XM xE D [] [] sz) 1 6 (OA [] sz) := by
  refine vx_ofW (cc := cX4_requireTurn) (maxL := 1) (ret := none) (by decide) rfl ?_
  intro p e s m args below meth c s₁ Bo hml hT hv
  obtain ⟨rfl, hC, hsz, hP, hD, hZ⟩ := hv
  have hx := Bo.exec
  have hb := Bo.bytes
  have hr := Bo.returns
  have hts : ∀ w ∈ LA, w.before _ s = true := fun w hw => atoms_spec (ws := ws_ yX4_requireTurn cX4_requireTurn 1 none) Bo.pre w (List.mem_cons_of_mem _ hw)
  have hown : s.vm.findClass RX4 = some m.cls := findClass_of_methodNamed Bo.named
  have hlocks := Bo.notSynchronized
  have hK := hC.1
  subst hsz
  have hl := lv_entry ([.int a1]) (n := 1) (Nat.le_of_ble_eq_true rfl)
  rw [lg_entry_eq]
  generalize (lg_sl ([.int a1]) ++ List.replicate (1 - (lg_sl ([.int a1])).length) Slot.unset).toArray = ls at hl ⊢
  have hl : lv_has ls 1 [(0, .int a1)] := hl
  suffices K9 : ∀ (H : Heap) (locs : List Loc), va_P D vwCl [] H → va_S (OA [] s.heap.size) s.heap H locs → W p l e (headSpec (ws_ yX4_requireTurn cX4_requireTurn 1 none) rx_X4_requireTurn).room s m ([.int a1] : List Value).toArray below meth c H locs 0 0 (vx_MQ below (fun _ _ _ _ => False) (XM xE D [] [] s.heap.size) ([.int a1] : List Value).toArray s 1 6 (OA [] s.heap.size)) (F0 m 0 ls []) from K9 s.heap [] hP va_S.rf
  intro H locs hP hS
  have hSz : s.heap.size ≤ H.size := hS.1
  unfold f_X4_requireTurn at h
  refine lv_iload_n hx hb dX4_requireTurn_0 rfl (lv_at hl 0 rfl) ?_
  refine lv_if_lt (tgt := 9) hx hb dX4_requireTurn_1 (by decide) (fun hc => ?_) (fun hc => ?_)
  · have h := iteT hc h
    obtain rfl := Sum.inr.inj (Option.some.inj h)
    obtain ⟨sa, hsa⟩ := hC.2.2.2.2.2.1 ("BentGardens", 354, "turn is not 0 to 3") (by decide +kernel)
    refine vx_throwSW hx hb hl9 hown (cls := "java/lang/IllegalArgumentException") (names := ["java/lang/RuntimeException", "java/lang/Exception"]) (by decide) (by decide) (hts _ qw389) (hts _ qw16) hsa (at_words hts hC.2.1 at_IllegalArgumentException) ato_IllegalArgumentException (hC.2.2.2.2.2.2.2.1.narrow hZ) (hC.2.2.2.2.2.2.2.2.1.narrow hZ) hS (hl.1.trans hml.symm) dX4_requireTurn_9 dX4_requireTurn_12 dX4_requireTurn_13 dX4_requireTurn_16 dX4_requireTurn_19 (fun x9 hx9 => (hT x9 hx9).elim) (Nat.le_of_ble_eq_true rfl) (Nat.le_of_ble_eq_true rfl) (Nat.le_of_ble_eq_true rfl) (Nat.le_of_ble_eq_true rfl) hlocks (fun t9 _ h8 h9 => XM.mk hP hD hS h8 h9) hS.2.2 (Nat.le_of_ble_eq_true rfl) (Nat.le_of_ble_eq_true rfl)
  · have h := iteF hc h
    refine lv_iload_n hx hb dX4_requireTurn_4 rfl (lv_at hl 0 rfl) ?_
    refine lv_iconst (v := (4)) hx hb dX4_requireTurn_5 (by decide) ?_
    refine lv_icmp_lt (tgt := 20) hx hb dX4_requireTurn_6 (by decide) (fun hc => ?_) (fun hc => ?_)
    · have h := iteT hc h
      exact absurd (Option.some.inj h) (fun z => by cases z)
    · have h := iteF hc h
      obtain rfl := Sum.inr.inj (Option.some.inj h)
      obtain ⟨sa, hsa⟩ := hC.2.2.2.2.2.1 ("BentGardens", 354, "turn is not 0 to 3") (by decide +kernel)
      refine vx_throwSW hx hb hl9 hown (cls := "java/lang/IllegalArgumentException") (names := ["java/lang/RuntimeException", "java/lang/Exception"]) (by decide) (by decide) (hts _ qw389) (hts _ qw16) hsa (at_words hts hC.2.1 at_IllegalArgumentException) ato_IllegalArgumentException (hC.2.2.2.2.2.2.2.1.narrow hZ) (hC.2.2.2.2.2.2.2.2.1.narrow hZ) hS (hl.1.trans hml.symm) dX4_requireTurn_9 dX4_requireTurn_12 dX4_requireTurn_13 dX4_requireTurn_16 dX4_requireTurn_19 (fun x9 hx9 => (hT x9 hx9).elim) (Nat.le_of_ble_eq_true rfl) (Nat.le_of_ble_eq_true rfl) (Nat.le_of_ble_eq_true rfl) (Nat.le_of_ble_eq_true rfl) hlocks (fun t9 _ h8 h9 => XM.mk hP hD hS h8 h9) hS.2.2 (Nat.le_of_ble_eq_true rfl) (Nat.le_of_ble_eq_true rfl)

abbrev rm_X4_append : Room := { frames := 6, cells := 0, slots := 0, locals := 120 }
theorem ok_X4_append : okY yX4_append 1 := ⟨by decide +kernel, by decide +kernel, by decide +kernel⟩
set_option maxHeartbeats 4000000 in
set_option maxRecDepth 100000 in
theorem c_X4_append (l : Launch) (z0 : Nat) (D : va_G) (t : Nat → ClassId) (x0 : Nat) (s0 : Nat) (s1 : Nat) (e0 : Nat) (E : Nat → Nat) (A : Nat → Nat) (B : Nat → Nat) (G : Nat → Nat) (T : va_W) (μ : XS) (a1 : Int32) (res : Int32 × (Int32) × (Nat → Int32)) (sz : Nat) (h : f_X4_append μ a1 = some (.inl res)) : Met l yX4_append (ws_ yX4_append cX4_append 2 (some .int)) rm_X4_append (PM z0 D t [.ref (x0), .int a1] (XW x0 s0 s1 e0 E A B G T t μ) (XL x0 s0 s1 e0 E A B G T μ) sz) (QM (some (.int res.1)) D (XW x0 s0 s1 e0 E A B G T t (x_codes' (x_length' μ res.2.1) res.2.2)) (XL x0 s0 s1 e0 E A B G T μ) sz) 0 0 (OA (XL x0 s0 s1 e0 E A B G T μ) sz) := by
  refine Met.ofW (cc := cX4_append) (maxL := 2) (ret := (some .int)) (by decide) rfl ?_
  intro p e s m args below meth c s₁ Bo hml hv
  obtain ⟨rfl, hC, hsz, hP, hD, hZ⟩ := hv
  have hx := Bo.exec
  have hb := Bo.bytes
  have hr := Bo.returns
  have hts : ∀ w ∈ LA, w.before _ s = true := fun w hw => atoms_spec (ws := ws_ yX4_append cX4_append 2 (some .int)) Bo.pre w (List.mem_cons_of_mem _ hw)
  have hown : s.vm.findClass RX4 = some m.cls := findClass_of_methodNamed Bo.named
  have hlocks := Bo.notSynchronized
  have hK := hC.1
  subst hsz
  have hl := lv_entry ([.ref (x0), .int a1]) (n := 2) (Nat.le_of_ble_eq_true rfl)
  rw [lg_entry_eq]
  generalize (lg_sl ([.ref (x0), .int a1]) ++ List.replicate (2 - (lg_sl ([.ref (x0), .int a1])).length) Slot.unset).toArray = ls at hl ⊢
  have hl : lv_has ls 2 [(0, .ref (x0)), (1, .int a1)] := hl
  suffices K9 : ∀ (H : Heap) (locs : List Loc), va_P D vwCl (XW x0 s0 s1 e0 E A B G T t μ) H → va_S (OA (XL x0 s0 s1 e0 E A B G T μ) s.heap.size) s.heap H locs → W p l e (headSpec (ws_ yX4_append cX4_append 2 (some .int)) rm_X4_append).room s m ([.ref (x0), .int a1] : List Value).toArray below meth c H locs 0 0 (MQ below (QM (some (.int res.1)) D (XW x0 s0 s1 e0 E A B G T t (x_codes' (x_length' μ res.2.1) res.2.2)) (XL x0 s0 s1 e0 E A B G T μ) s.heap.size) ([.ref (x0), .int a1] : List Value).toArray s 0 0 (OA (XL x0 s0 s1 e0 E A B G T μ) s.heap.size)) (F0 m 0 ls []) from K9 s.heap [] hP va_S.rf
  intro H locs hP hS
  have hSz : s.heap.size ≤ H.size := hS.1
  unfold f_X4_append at h
  refine lv_iload_n hx hb dX4_append_0 rfl (lv_at hl 1 rfl) ?_
  refine lv_bipush (v := (33)) hx hb dX4_append_1 (by decide) ?_
  refine lv_icmp_lt (tgt := 12) hx hb dX4_append_3 (by decide) (fun hc => ?_) (fun hc => ?_)
  · have h := iteT hc h
    exact absurd (Option.some.inj h) (fun z => by cases z)
  · have h := iteF hc h
    refine lv_iload_n hx hb dX4_append_6 rfl (lv_at hl 1 rfl) ?_
    refine lv_bipush (v := (126)) hx hb dX4_append_7 (by decide) ?_
    refine lv_icmp_le (tgt := 22) hx hb dX4_append_9 (by decide) (fun hc => ?_) (fun hc => ?_)
    · have h := iteT hc h
      refine lv_aload_n hx hb dX4_append_22 rfl (lv_at hl 0 rfl) ?_
      refine va_get hx hb hts inX4 hown hK hP 0 rfl rfl 2 (by decide) (hts _ qw157) (fun _ h9 => h9) rfl dX4_append_23 ?_
      obtain ⟨r1, er1, h⟩ := obind h
      refine call_R (va_runV (As := []) (rest := []) ⟨hx, hb, hml, hown, hts⟩ (c_X0_isFull l z0 D t E ((x_length μ), (x_codes μ)) _ er1) (kV hts qw700 qw701 qw702 qw5 qw703 ok_X0_isFull ⟨Nat.le_of_ble_eq_true rfl, Nat.le_of_ble_eq_true rfl⟩) ⟨PR.blind, va_recv hK (sub_X_B (μ := μ) hP) (ci := 1) (q0 := 0) rfl rfl, fun U hU hW => ⟨rfl, by rw [hU]; exact (hC.at hS hZ).warm hW, by rw [hU]; exact (sub_X_B (μ := μ) hP)⟩⟩ rfl rfl hl.1 rfl (lv_room (Nat.le_of_ble_eq_true rfl)) dX4_append_26 ⟨Nat.le_of_ble_eq_true rfl, Nat.le_of_ble_eq_true rfl⟩) ?_
      refine lv_if_eq (tgt := 42) hx hb dX4_append_29 (by decide) (fun hc => ?_) (fun hc => ?_)
      · have h := iteT hc h
        refine lv_aload_n hx hb dX4_append_42 rfl (lv_at hl 0 rfl) ?_
        refine va_get hx hb hts inX4 hown hK hP 0 rfl rfl 2 (by decide) (hts _ qw157) (fun _ h9 => h9) rfl dX4_append_43 ?_
        refine lv_iload_n hx hb dX4_append_46 rfl (lv_at hl 1 rfl) ?_
        obtain ⟨r2, er2, h⟩ := obind h
        refine call_M (va_runV (As := [.int a1]) (rest := []) ⟨hx, hb, hml, hown, hts⟩ (c_X0_add l z0 D t E ((x_length μ), (x_codes μ)) a1 _ H.size er2) (kV hts qw705 qw706 qw707 qw5 qw708 ok_X0_add ⟨Nat.le_of_ble_eq_true rfl, Nat.le_of_ble_eq_true rfl⟩) ⟨PM.blind, va_recv hK (sub_X_B (μ := μ) hP) (ci := 1) (q0 := 0) rfl rfl, fun U hU hW => ⟨rfl, by rw [hU]; exact (hC.at hS hZ).warm hW, by rw [hU], by rw [hU]; exact (sub_X_B (μ := μ) hP), ⟨(subD_X_B (μ := μ) hD).1, fun _ _ h9 => Or.inl (in_map (L := (BL E)) rfl h9)⟩, fun q hq => hZ q (OA.ofD (subD_X_B (μ := μ) hD) rfl hSz q hq)⟩⟩ rfl rfl hl.1 rfl (lv_room (Nat.le_of_ble_eq_true rfl)) dX4_append_47 ⟨Nat.le_of_ble_eq_true rfl, Nat.le_of_ble_eq_true rfl⟩) hS (OA.ofD (subD_X_B (μ := μ) hD) rfl hSz) (fun H locs hP1 hD1 hS _ hk1 => ?_)
        obtain ⟨hP, hD⟩ := back_X_B (μ := μ) hP hD hk1 hP1
        have hP : va_P D vwCl (XW x0 s0 s1 e0 E A B G T t (x_codes' (x_length' μ r2.1) r2.2)) H := hP
        have hD : va_D (OA (XL x0 s0 s1 e0 E A B G T μ) s.heap.size) (XW x0 s0 s1 e0 E A B G T t (x_codes' (x_length' μ r2.1) r2.2)) := hD
        have hSz : s.heap.size ≤ H.size := hS.1
        refine lv_aload_n hx hb dX4_append_50 rfl (lv_at hl 0 rfl) ?_
        refine va_get hx hb hts inX4 hown hK hP 0 rfl rfl 2 (by decide) (hts _ qw157) (fun _ h9 => h9) rfl dX4_append_51 ?_
        refine va_get hx hb hts inX0 hown hK hP 2 rfl rfl 0 (by decide) (hts _ qw68) (fun _ h9 => h9) rfl dX4_append_54 ?_
        obtain rfl := Sum.inl.inj (Option.some.inj h)
        exact W.iret hx hb hr (fun t ht hW => ⟨rfl, by rw [ht]; exact hP, hD, hS.F ht⟩) hS.2.2 dX4_append_57
      · have h := iteF hc h
        exact absurd (Option.some.inj h) (fun z => by cases z)
    · have h := iteF hc h
      exact absurd (Option.some.inj h) (fun z => by cases z)

abbrev rx_X4_append : Room := { frames := 6, cells := 1, slots := 6, locals := 120 }
set_option maxHeartbeats 4000000 in
set_option maxRecDepth 100000 in
theorem x_X4_append (l : Launch) (hl9 : l.stackTraces = false) (z0 : Nat) (D : va_G) (t : Nat → ClassId) (x0 : Nat) (s0 : Nat) (s1 : Nat) (e0 : Nat) (E : Nat → Nat) (A : Nat → Nat) (B : Nat → Nat) (G : Nat → Nat) (T : va_W) (μ : XS) (a1 : Int32) (xE : String) (sz : Nat) (h : f_X4_append μ a1 = some (.inr xE)) : vx_Met l yX4_append (ws_ yX4_append cX4_append 2 (some .int)) rx_X4_append (PM z0 D t [.ref (x0), .int a1] (XW x0 s0 s1 e0 E A B G T t μ) (XL x0 s0 s1 e0 E A B G T μ) sz) (fun _ _ _ _ => False) (XM xE D (XW x0 s0 s1 e0 E A B G T t μ) (XL x0 s0 s1 e0 E A B G T μ) sz) 1 6 (OA (XL x0 s0 s1 e0 E A B G T μ) sz) := by
  refine vx_ofW (cc := cX4_append) (maxL := 2) (ret := (some .int)) (by decide) rfl ?_
  intro p e s m args below meth c s₁ Bo hml hT hv
  obtain ⟨rfl, hC, hsz, hP, hD, hZ⟩ := hv
  have hx := Bo.exec
  have hb := Bo.bytes
  have hr := Bo.returns
  have hts : ∀ w ∈ LA, w.before _ s = true := fun w hw => atoms_spec (ws := ws_ yX4_append cX4_append 2 (some .int)) Bo.pre w (List.mem_cons_of_mem _ hw)
  have hown : s.vm.findClass RX4 = some m.cls := findClass_of_methodNamed Bo.named
  have hlocks := Bo.notSynchronized
  have hK := hC.1
  subst hsz
  have hl := lv_entry ([.ref (x0), .int a1]) (n := 2) (Nat.le_of_ble_eq_true rfl)
  rw [lg_entry_eq]
  generalize (lg_sl ([.ref (x0), .int a1]) ++ List.replicate (2 - (lg_sl ([.ref (x0), .int a1])).length) Slot.unset).toArray = ls at hl ⊢
  have hl : lv_has ls 2 [(0, .ref (x0)), (1, .int a1)] := hl
  suffices K9 : ∀ (H : Heap) (locs : List Loc), va_P D vwCl (XW x0 s0 s1 e0 E A B G T t μ) H → va_S (OA (XL x0 s0 s1 e0 E A B G T μ) s.heap.size) s.heap H locs → W p l e (headSpec (ws_ yX4_append cX4_append 2 (some .int)) rx_X4_append).room s m ([.ref (x0), .int a1] : List Value).toArray below meth c H locs 0 0 (vx_MQ below (fun _ _ _ _ => False) (XM xE D (XW x0 s0 s1 e0 E A B G T t μ) (XL x0 s0 s1 e0 E A B G T μ) s.heap.size) ([.ref (x0), .int a1] : List Value).toArray s 1 6 (OA (XL x0 s0 s1 e0 E A B G T μ) s.heap.size)) (F0 m 0 ls []) from K9 s.heap [] hP va_S.rf
  intro H locs hP hS
  have hSz : s.heap.size ≤ H.size := hS.1
  unfold f_X4_append at h
  refine lv_iload_n hx hb dX4_append_0 rfl (lv_at hl 1 rfl) ?_
  refine lv_bipush (v := (33)) hx hb dX4_append_1 (by decide) ?_
  refine lv_icmp_lt (tgt := 12) hx hb dX4_append_3 (by decide) (fun hc => ?_) (fun hc => ?_)
  · have h := iteT hc h
    obtain rfl := Sum.inr.inj (Option.some.inj h)
    obtain ⟨sa, hsa⟩ := hC.2.2.2.2.2.1 ("BentGardens", 171, "code is not 33 to 126") (by decide +kernel)
    refine vx_throwS hx hb hl9 hown (cls := "java/lang/IllegalArgumentException") (names := ["java/lang/RuntimeException", "java/lang/Exception"]) (by decide) (by decide) (hts _ qw389) (hts _ qw16) hsa (at_words hts hC.2.1 at_IllegalArgumentException) ato_IllegalArgumentException (hC.2.2.2.2.2.2.2.1.narrow hZ) (hC.2.2.2.2.2.2.2.2.1.narrow hZ) hS (hl.1.trans hml.symm) dX4_append_12 dX4_append_15 dX4_append_16 dX4_append_18 dX4_append_21 (fun x9 hx9 => (hT x9 hx9).elim) (Nat.le_of_ble_eq_true rfl) (Nat.le_of_ble_eq_true rfl) (Nat.le_of_ble_eq_true rfl) (Nat.le_of_ble_eq_true rfl) hlocks (fun t9 _ h8 h9 => XM.mk hP hD hS h8 h9) hS.2.2 (Nat.le_of_ble_eq_true rfl) (Nat.le_of_ble_eq_true rfl)
  · have h := iteF hc h
    refine lv_iload_n hx hb dX4_append_6 rfl (lv_at hl 1 rfl) ?_
    refine lv_bipush (v := (126)) hx hb dX4_append_7 (by decide) ?_
    refine lv_icmp_le (tgt := 22) hx hb dX4_append_9 (by decide) (fun hc => ?_) (fun hc => ?_)
    · have h := iteT hc h
      refine lv_aload_n hx hb dX4_append_22 rfl (lv_at hl 0 rfl) ?_
      refine va_get hx hb hts inX4 hown hK hP 0 rfl rfl 2 (by decide) (hts _ qw157) (fun _ h9 => h9) rfl dX4_append_23 ?_
      obtain ⟨r1, er1, h⟩ := obind h
      refine call_R (va_runV (As := []) (rest := []) ⟨hx, hb, hml, hown, hts⟩ (c_X0_isFull l z0 D t E ((x_length μ), (x_codes μ)) _ er1) (kV hts qw700 qw701 qw702 qw5 qw703 ok_X0_isFull ⟨Nat.le_of_ble_eq_true rfl, Nat.le_of_ble_eq_true rfl⟩) ⟨PR.blind, va_recv hK (sub_X_B (μ := μ) hP) (ci := 1) (q0 := 0) rfl rfl, fun U hU hW => ⟨rfl, by rw [hU]; exact (hC.at hS hZ).warm hW, by rw [hU]; exact (sub_X_B (μ := μ) hP)⟩⟩ rfl rfl hl.1 rfl (lv_room (Nat.le_of_ble_eq_true rfl)) dX4_append_26 ⟨Nat.le_of_ble_eq_true rfl, Nat.le_of_ble_eq_true rfl⟩) ?_
      refine lv_if_eq (tgt := 42) hx hb dX4_append_29 (by decide) (fun hc => ?_) (fun hc => ?_)
      · have h := iteT hc h
        refine lv_aload_n hx hb dX4_append_42 rfl (lv_at hl 0 rfl) ?_
        refine va_get hx hb hts inX4 hown hK hP 0 rfl rfl 2 (by decide) (hts _ qw157) (fun _ h9 => h9) rfl dX4_append_43 ?_
        refine lv_iload_n hx hb dX4_append_46 rfl (lv_at hl 1 rfl) ?_
        obtain ⟨r2, er2, h⟩ := obind h
        refine call_M (va_runV (As := [.int a1]) (rest := []) ⟨hx, hb, hml, hown, hts⟩ (c_X0_add l z0 D t E ((x_length μ), (x_codes μ)) a1 _ H.size er2) (kV hts qw705 qw706 qw707 qw5 qw708 ok_X0_add ⟨Nat.le_of_ble_eq_true rfl, Nat.le_of_ble_eq_true rfl⟩) ⟨PM.blind, va_recv hK (sub_X_B (μ := μ) hP) (ci := 1) (q0 := 0) rfl rfl, fun U hU hW => ⟨rfl, by rw [hU]; exact (hC.at hS hZ).warm hW, by rw [hU], by rw [hU]; exact (sub_X_B (μ := μ) hP), ⟨(subD_X_B (μ := μ) hD).1, fun _ _ h9 => Or.inl (in_map (L := (BL E)) rfl h9)⟩, fun q hq => hZ q (OA.ofD (subD_X_B (μ := μ) hD) rfl hSz q hq)⟩⟩ rfl rfl hl.1 rfl (lv_room (Nat.le_of_ble_eq_true rfl)) dX4_append_47 ⟨Nat.le_of_ble_eq_true rfl, Nat.le_of_ble_eq_true rfl⟩) hS (OA.ofD (subD_X_B (μ := μ) hD) rfl hSz) (fun H locs hP1 hD1 hS _ hk1 => ?_)
        obtain ⟨hP, hD⟩ := back_X_B (μ := μ) hP hD hk1 hP1
        have hP : va_P D vwCl (XW x0 s0 s1 e0 E A B G T t (x_codes' (x_length' μ r2.1) r2.2)) H := hP
        have hD : va_D (OA (XL x0 s0 s1 e0 E A B G T μ) s.heap.size) (XW x0 s0 s1 e0 E A B G T t (x_codes' (x_length' μ r2.1) r2.2)) := hD
        have hSz : s.heap.size ≤ H.size := hS.1
        refine lv_aload_n hx hb dX4_append_50 rfl (lv_at hl 0 rfl) ?_
        refine va_get hx hb hts inX4 hown hK hP 0 rfl rfl 2 (by decide) (hts _ qw157) (fun _ h9 => h9) rfl dX4_append_51 ?_
        refine va_get hx hb hts inX0 hown hK hP 2 rfl rfl 0 (by decide) (hts _ qw68) (fun _ h9 => h9) rfl dX4_append_54 ?_
        exact absurd (Option.some.inj h) (fun z => by cases z)
      · have h := iteF hc h
        obtain rfl := Sum.inr.inj (Option.some.inj h)
        obtain ⟨sa, hsa⟩ := hC.2.2.2.2.2.1 ("BentGardens", 176, "the buffer is full") (by decide +kernel)
        refine vx_throwS hx hb hl9 hown (cls := "java/lang/IllegalStateException") (names := ["java/lang/RuntimeException", "java/lang/Exception"]) (by decide) (by decide) (hts _ qw579) (hts _ qw12) hsa (at_words hts hC.2.1 at_IllegalStateException) ato_IllegalStateException (hC.2.2.2.2.2.2.2.1.narrow hZ) (hC.2.2.2.2.2.2.2.2.1.narrow hZ) hS (hl.1.trans hml.symm) dX4_append_32 dX4_append_35 dX4_append_36 dX4_append_38 dX4_append_41 (fun x9 hx9 => (hT x9 hx9).elim) (Nat.le_of_ble_eq_true rfl) (Nat.le_of_ble_eq_true rfl) (Nat.le_of_ble_eq_true rfl) (Nat.le_of_ble_eq_true rfl) hlocks (fun t9 _ h8 h9 => XM.mk hP hD hS h8 h9) hS.2.2 (Nat.le_of_ble_eq_true rfl) (Nat.le_of_ble_eq_true rfl)
    · have h := iteF hc h
      obtain rfl := Sum.inr.inj (Option.some.inj h)
      obtain ⟨sa, hsa⟩ := hC.2.2.2.2.2.1 ("BentGardens", 171, "code is not 33 to 126") (by decide +kernel)
      refine vx_throwS hx hb hl9 hown (cls := "java/lang/IllegalArgumentException") (names := ["java/lang/RuntimeException", "java/lang/Exception"]) (by decide) (by decide) (hts _ qw389) (hts _ qw16) hsa (at_words hts hC.2.1 at_IllegalArgumentException) ato_IllegalArgumentException (hC.2.2.2.2.2.2.2.1.narrow hZ) (hC.2.2.2.2.2.2.2.2.1.narrow hZ) hS (hl.1.trans hml.symm) dX4_append_12 dX4_append_15 dX4_append_16 dX4_append_18 dX4_append_21 (fun x9 hx9 => (hT x9 hx9).elim) (Nat.le_of_ble_eq_true rfl) (Nat.le_of_ble_eq_true rfl) (Nat.le_of_ble_eq_true rfl) (Nat.le_of_ble_eq_true rfl) hlocks (fun t9 _ h8 h9 => XM.mk hP hD hS h8 h9) hS.2.2 (Nat.le_of_ble_eq_true rfl) (Nat.le_of_ble_eq_true rfl)

abbrev rm_X4_requireSlot : Room := { frames := 6, cells := 0, slots := 0, locals := 120 }
theorem ok_X4_requireSlot : okY yX4_requireSlot 1 := ⟨by decide +kernel, by decide +kernel, by decide +kernel⟩
set_option maxHeartbeats 4000000 in
set_option maxRecDepth 100000 in
theorem c_X4_requireSlot (l : Launch) (z0 : Nat) (D : va_G) (t : Nat → ClassId) (x0 : Nat) (s0 : Nat) (s1 : Nat) (e0 : Nat) (E : Nat → Nat) (A : Nat → Nat) (B : Nat → Nat) (G : Nat → Nat) (T : va_W) (μ : XS) (a1 : Int32) (res : Unit) (h : f_X4_requireSlot μ a1 = some (.inl res)) : Met l yX4_requireSlot (ws_ yX4_requireSlot cX4_requireSlot 2 none) rm_X4_requireSlot (PR z0 D t [.ref (x0), .int a1] (XW x0 s0 s1 e0 E A B G T t μ)) (QR none) 0 0 FN := by
  refine Met.ofW (cc := cX4_requireSlot) (maxL := 2) (ret := none) (by decide) rfl ?_
  intro p e s m args below meth c s₁ Bo hml hv
  obtain ⟨rfl, hC, hP⟩ := hv
  have hx := Bo.exec
  have hb := Bo.bytes
  have hr := Bo.returns
  have hts : ∀ w ∈ LA, w.before _ s = true := fun w hw => atoms_spec (ws := ws_ yX4_requireSlot cX4_requireSlot 2 none) Bo.pre w (List.mem_cons_of_mem _ hw)
  have hown : s.vm.findClass RX4 = some m.cls := findClass_of_methodNamed Bo.named
  have hlocks := Bo.notSynchronized
  have hK := hC.1
  have hl := lv_entry ([.ref (x0), .int a1]) (n := 2) (Nat.le_of_ble_eq_true rfl)
  rw [lg_entry_eq]
  generalize (lg_sl ([.ref (x0), .int a1]) ++ List.replicate (2 - (lg_sl ([.ref (x0), .int a1])).length) Slot.unset).toArray = ls at hl ⊢
  have hl : lv_has ls 2 [(0, .ref (x0)), (1, .int a1)] := hl
  unfold f_X4_requireSlot at h
  refine lv_iload_n hx hb dX4_requireSlot_0 rfl (lv_at hl 1 rfl) ?_
  refine lv_if_lt (tgt := 13) hx hb dX4_requireSlot_1 (by decide) (fun hc => ?_) (fun hc => ?_)
  · have h := iteT hc h
    exact absurd (Option.some.inj h) (fun z => by cases z)
  · have h := iteF hc h
    refine lv_iload_n hx hb dX4_requireSlot_4 rfl (lv_at hl 1 rfl) ?_
    refine lv_aload_n hx hb dX4_requireSlot_5 rfl (lv_at hl 0 rfl) ?_
    refine va_get hx hb hts inX4 hown hK hP 0 rfl rfl 1 (by decide) (hts _ qw156) (fun _ h9 => h9) rfl dX4_requireSlot_6 ?_
    refine va_alen hx hb hK hP 1 3 rfl rfl (v := 2) rfl dX4_requireSlot_9 ?_
    refine lv_icmp_lt (tgt := 24) hx hb dX4_requireSlot_10 (by decide) (fun hc => ?_) (fun hc => ?_)
    · have h := iteT hc h
      obtain rfl := Sum.inl.inj (Option.some.inj h)
      exact W.vret hx hb hr (fun t ht hW => ⟨rfl, ht⟩) (fun q hq => absurd hq List.not_mem_nil) dX4_requireSlot_24
    · have h := iteF hc h
      exact absurd (Option.some.inj h) (fun z => by cases z)

abbrev rx_X4_requireSlot : Room := { frames := 6, cells := 1, slots := 6, locals := 120 }
set_option maxHeartbeats 4000000 in
set_option maxRecDepth 100000 in
theorem x_X4_requireSlot (l : Launch) (hl9 : l.stackTraces = false) (z0 : Nat) (D : va_G) (t : Nat → ClassId) (x0 : Nat) (s0 : Nat) (s1 : Nat) (e0 : Nat) (E : Nat → Nat) (A : Nat → Nat) (B : Nat → Nat) (G : Nat → Nat) (T : va_W) (μ : XS) (a1 : Int32) (xE : String) (sz : Nat) (h : f_X4_requireSlot μ a1 = some (.inr xE)) : vx_Met l yX4_requireSlot (ws_ yX4_requireSlot cX4_requireSlot 2 none) rx_X4_requireSlot (PM z0 D t [.ref (x0), .int a1] (XW x0 s0 s1 e0 E A B G T t μ) (XL x0 s0 s1 e0 E A B G T μ) sz) (fun _ _ _ _ => False) (XM xE D (XW x0 s0 s1 e0 E A B G T t μ) (XL x0 s0 s1 e0 E A B G T μ) sz) 1 6 (OA (XL x0 s0 s1 e0 E A B G T μ) sz) := by
  refine vx_ofW (cc := cX4_requireSlot) (maxL := 2) (ret := none) (by decide) rfl ?_
  intro p e s m args below meth c s₁ Bo hml hT hv
  obtain ⟨rfl, hC, hsz, hP, hD, hZ⟩ := hv
  have hx := Bo.exec
  have hb := Bo.bytes
  have hr := Bo.returns
  have hts : ∀ w ∈ LA, w.before _ s = true := fun w hw => atoms_spec (ws := ws_ yX4_requireSlot cX4_requireSlot 2 none) Bo.pre w (List.mem_cons_of_mem _ hw)
  have hown : s.vm.findClass RX4 = some m.cls := findClass_of_methodNamed Bo.named
  have hlocks := Bo.notSynchronized
  have hK := hC.1
  subst hsz
  have hl := lv_entry ([.ref (x0), .int a1]) (n := 2) (Nat.le_of_ble_eq_true rfl)
  rw [lg_entry_eq]
  generalize (lg_sl ([.ref (x0), .int a1]) ++ List.replicate (2 - (lg_sl ([.ref (x0), .int a1])).length) Slot.unset).toArray = ls at hl ⊢
  have hl : lv_has ls 2 [(0, .ref (x0)), (1, .int a1)] := hl
  suffices K9 : ∀ (H : Heap) (locs : List Loc), va_P D vwCl (XW x0 s0 s1 e0 E A B G T t μ) H → va_S (OA (XL x0 s0 s1 e0 E A B G T μ) s.heap.size) s.heap H locs → W p l e (headSpec (ws_ yX4_requireSlot cX4_requireSlot 2 none) rx_X4_requireSlot).room s m ([.ref (x0), .int a1] : List Value).toArray below meth c H locs 0 0 (vx_MQ below (fun _ _ _ _ => False) (XM xE D (XW x0 s0 s1 e0 E A B G T t μ) (XL x0 s0 s1 e0 E A B G T μ) s.heap.size) ([.ref (x0), .int a1] : List Value).toArray s 1 6 (OA (XL x0 s0 s1 e0 E A B G T μ) s.heap.size)) (F0 m 0 ls []) from K9 s.heap [] hP va_S.rf
  intro H locs hP hS
  have hSz : s.heap.size ≤ H.size := hS.1
  unfold f_X4_requireSlot at h
  refine lv_iload_n hx hb dX4_requireSlot_0 rfl (lv_at hl 1 rfl) ?_
  refine lv_if_lt (tgt := 13) hx hb dX4_requireSlot_1 (by decide) (fun hc => ?_) (fun hc => ?_)
  · have h := iteT hc h
    obtain rfl := Sum.inr.inj (Option.some.inj h)
    obtain ⟨sa, hsa⟩ := hC.2.2.2.2.2.1 ("BentGardens", 358, "slot is not 0 or 1") (by decide +kernel)
    refine vx_throwSW hx hb hl9 hown (cls := "java/lang/IllegalArgumentException") (names := ["java/lang/RuntimeException", "java/lang/Exception"]) (by decide) (by decide) (hts _ qw389) (hts _ qw16) hsa (at_words hts hC.2.1 at_IllegalArgumentException) ato_IllegalArgumentException (hC.2.2.2.2.2.2.2.1.narrow hZ) (hC.2.2.2.2.2.2.2.2.1.narrow hZ) hS (hl.1.trans hml.symm) dX4_requireSlot_13 dX4_requireSlot_16 dX4_requireSlot_17 dX4_requireSlot_20 dX4_requireSlot_23 (fun x9 hx9 => (hT x9 hx9).elim) (Nat.le_of_ble_eq_true rfl) (Nat.le_of_ble_eq_true rfl) (Nat.le_of_ble_eq_true rfl) (Nat.le_of_ble_eq_true rfl) hlocks (fun t9 _ h8 h9 => XM.mk hP hD hS h8 h9) hS.2.2 (Nat.le_of_ble_eq_true rfl) (Nat.le_of_ble_eq_true rfl)
  · have h := iteF hc h
    refine lv_iload_n hx hb dX4_requireSlot_4 rfl (lv_at hl 1 rfl) ?_
    refine lv_aload_n hx hb dX4_requireSlot_5 rfl (lv_at hl 0 rfl) ?_
    refine va_get hx hb hts inX4 hown hK hP 0 rfl rfl 1 (by decide) (hts _ qw156) (fun _ h9 => h9) rfl dX4_requireSlot_6 ?_
    refine va_alen hx hb hK hP 1 3 rfl rfl (v := 2) rfl dX4_requireSlot_9 ?_
    refine lv_icmp_lt (tgt := 24) hx hb dX4_requireSlot_10 (by decide) (fun hc => ?_) (fun hc => ?_)
    · have h := iteT hc h
      exact absurd (Option.some.inj h) (fun z => by cases z)
    · have h := iteF hc h
      obtain rfl := Sum.inr.inj (Option.some.inj h)
      obtain ⟨sa, hsa⟩ := hC.2.2.2.2.2.1 ("BentGardens", 358, "slot is not 0 or 1") (by decide +kernel)
      refine vx_throwSW hx hb hl9 hown (cls := "java/lang/IllegalArgumentException") (names := ["java/lang/RuntimeException", "java/lang/Exception"]) (by decide) (by decide) (hts _ qw389) (hts _ qw16) hsa (at_words hts hC.2.1 at_IllegalArgumentException) ato_IllegalArgumentException (hC.2.2.2.2.2.2.2.1.narrow hZ) (hC.2.2.2.2.2.2.2.2.1.narrow hZ) hS (hl.1.trans hml.symm) dX4_requireSlot_13 dX4_requireSlot_16 dX4_requireSlot_17 dX4_requireSlot_20 dX4_requireSlot_23 (fun x9 hx9 => (hT x9 hx9).elim) (Nat.le_of_ble_eq_true rfl) (Nat.le_of_ble_eq_true rfl) (Nat.le_of_ble_eq_true rfl) (Nat.le_of_ble_eq_true rfl) hlocks (fun t9 _ h8 h9 => XM.mk hP hD hS h8 h9) hS.2.2 (Nat.le_of_ble_eq_true rfl) (Nat.le_of_ble_eq_true rfl)

abbrev rm_X4_requireProperty : Room := { frames := 6, cells := 0, slots := 0, locals := 120 }
theorem ok_X4_requireProperty : okY yX4_requireProperty 1 := ⟨by decide +kernel, by decide +kernel, by decide +kernel⟩
set_option maxHeartbeats 4000000 in
set_option maxRecDepth 100000 in
theorem c_X4_requireProperty (l : Launch) (z0 : Nat) (D : va_G) (t : Nat → ClassId) (a1 : Int32) (res : Unit) (h : f_X4_requireProperty a1 = some (.inl res)) : Met l yX4_requireProperty (ws_ yX4_requireProperty cX4_requireProperty 1 none) rm_X4_requireProperty (PR z0 D t [.int a1] []) (QR none) 0 0 FN := by
  refine Met.ofW (cc := cX4_requireProperty) (maxL := 1) (ret := none) (by decide) rfl ?_
  intro p e s m args below meth c s₁ Bo hml hv
  obtain ⟨rfl, hC, hP⟩ := hv
  have hx := Bo.exec
  have hb := Bo.bytes
  have hr := Bo.returns
  have hts : ∀ w ∈ LA, w.before _ s = true := fun w hw => atoms_spec (ws := ws_ yX4_requireProperty cX4_requireProperty 1 none) Bo.pre w (List.mem_cons_of_mem _ hw)
  have hown : s.vm.findClass RX4 = some m.cls := findClass_of_methodNamed Bo.named
  have hlocks := Bo.notSynchronized
  have hK := hC.1
  have hl := lv_entry ([.int a1]) (n := 1) (Nat.le_of_ble_eq_true rfl)
  rw [lg_entry_eq]
  generalize (lg_sl ([.int a1]) ++ List.replicate (1 - (lg_sl ([.int a1])).length) Slot.unset).toArray = ls at hl ⊢
  have hl : lv_has ls 1 [(0, .int a1)] := hl
  unfold f_X4_requireProperty at h
  refine lv_iload_n hx hb dX4_requireProperty_0 rfl (lv_at hl 0 rfl) ?_
  refine lv_if_lt (tgt := 9) hx hb dX4_requireProperty_1 (by decide) (fun hc => ?_) (fun hc => ?_)
  · have h := iteT hc h
    exact absurd (Option.some.inj h) (fun z => by cases z)
  · have h := iteF hc h
    refine lv_iload_n hx hb dX4_requireProperty_4 rfl (lv_at hl 0 rfl) ?_
    refine lv_iconst (v := (3)) hx hb dX4_requireProperty_5 (by decide) ?_
    refine lv_icmp_lt (tgt := 20) hx hb dX4_requireProperty_6 (by decide) (fun hc => ?_) (fun hc => ?_)
    · have h := iteT hc h
      obtain rfl := Sum.inl.inj (Option.some.inj h)
      exact W.vret hx hb hr (fun t ht hW => ⟨rfl, ht⟩) (fun q hq => absurd hq List.not_mem_nil) dX4_requireProperty_20
    · have h := iteF hc h
      exact absurd (Option.some.inj h) (fun z => by cases z)

abbrev rx_X4_requireProperty : Room := { frames := 6, cells := 1, slots := 6, locals := 120 }
set_option maxHeartbeats 4000000 in
set_option maxRecDepth 100000 in
theorem x_X4_requireProperty (l : Launch) (hl9 : l.stackTraces = false) (z0 : Nat) (D : va_G) (t : Nat → ClassId) (a1 : Int32) (xE : String) (sz : Nat) (h : f_X4_requireProperty a1 = some (.inr xE)) : vx_Met l yX4_requireProperty (ws_ yX4_requireProperty cX4_requireProperty 1 none) rx_X4_requireProperty (PM z0 D t [.int a1] [] [] sz) (fun _ _ _ _ => False) (XM xE D [] [] sz) 1 6 (OA [] sz) := by
  refine vx_ofW (cc := cX4_requireProperty) (maxL := 1) (ret := none) (by decide) rfl ?_
  intro p e s m args below meth c s₁ Bo hml hT hv
  obtain ⟨rfl, hC, hsz, hP, hD, hZ⟩ := hv
  have hx := Bo.exec
  have hb := Bo.bytes
  have hr := Bo.returns
  have hts : ∀ w ∈ LA, w.before _ s = true := fun w hw => atoms_spec (ws := ws_ yX4_requireProperty cX4_requireProperty 1 none) Bo.pre w (List.mem_cons_of_mem _ hw)
  have hown : s.vm.findClass RX4 = some m.cls := findClass_of_methodNamed Bo.named
  have hlocks := Bo.notSynchronized
  have hK := hC.1
  subst hsz
  have hl := lv_entry ([.int a1]) (n := 1) (Nat.le_of_ble_eq_true rfl)
  rw [lg_entry_eq]
  generalize (lg_sl ([.int a1]) ++ List.replicate (1 - (lg_sl ([.int a1])).length) Slot.unset).toArray = ls at hl ⊢
  have hl : lv_has ls 1 [(0, .int a1)] := hl
  suffices K9 : ∀ (H : Heap) (locs : List Loc), va_P D vwCl [] H → va_S (OA [] s.heap.size) s.heap H locs → W p l e (headSpec (ws_ yX4_requireProperty cX4_requireProperty 1 none) rx_X4_requireProperty).room s m ([.int a1] : List Value).toArray below meth c H locs 0 0 (vx_MQ below (fun _ _ _ _ => False) (XM xE D [] [] s.heap.size) ([.int a1] : List Value).toArray s 1 6 (OA [] s.heap.size)) (F0 m 0 ls []) from K9 s.heap [] hP va_S.rf
  intro H locs hP hS
  have hSz : s.heap.size ≤ H.size := hS.1
  unfold f_X4_requireProperty at h
  refine lv_iload_n hx hb dX4_requireProperty_0 rfl (lv_at hl 0 rfl) ?_
  refine lv_if_lt (tgt := 9) hx hb dX4_requireProperty_1 (by decide) (fun hc => ?_) (fun hc => ?_)
  · have h := iteT hc h
    obtain rfl := Sum.inr.inj (Option.some.inj h)
    obtain ⟨sa, hsa⟩ := hC.2.2.2.2.2.1 ("BentGardens", 356, "what is not 0 to 2") (by decide +kernel)
    refine vx_throwSW hx hb hl9 hown (cls := "java/lang/IllegalArgumentException") (names := ["java/lang/RuntimeException", "java/lang/Exception"]) (by decide) (by decide) (hts _ qw389) (hts _ qw16) hsa (at_words hts hC.2.1 at_IllegalArgumentException) ato_IllegalArgumentException (hC.2.2.2.2.2.2.2.1.narrow hZ) (hC.2.2.2.2.2.2.2.2.1.narrow hZ) hS (hl.1.trans hml.symm) dX4_requireProperty_9 dX4_requireProperty_12 dX4_requireProperty_13 dX4_requireProperty_16 dX4_requireProperty_19 (fun x9 hx9 => (hT x9 hx9).elim) (Nat.le_of_ble_eq_true rfl) (Nat.le_of_ble_eq_true rfl) (Nat.le_of_ble_eq_true rfl) (Nat.le_of_ble_eq_true rfl) hlocks (fun t9 _ h8 h9 => XM.mk hP hD hS h8 h9) hS.2.2 (Nat.le_of_ble_eq_true rfl) (Nat.le_of_ble_eq_true rfl)
  · have h := iteF hc h
    refine lv_iload_n hx hb dX4_requireProperty_4 rfl (lv_at hl 0 rfl) ?_
    refine lv_iconst (v := (3)) hx hb dX4_requireProperty_5 (by decide) ?_
    refine lv_icmp_lt (tgt := 20) hx hb dX4_requireProperty_6 (by decide) (fun hc => ?_) (fun hc => ?_)
    · have h := iteT hc h
      exact absurd (Option.some.inj h) (fun z => by cases z)
    · have h := iteF hc h
      obtain rfl := Sum.inr.inj (Option.some.inj h)
      obtain ⟨sa, hsa⟩ := hC.2.2.2.2.2.1 ("BentGardens", 356, "what is not 0 to 2") (by decide +kernel)
      refine vx_throwSW hx hb hl9 hown (cls := "java/lang/IllegalArgumentException") (names := ["java/lang/RuntimeException", "java/lang/Exception"]) (by decide) (by decide) (hts _ qw389) (hts _ qw16) hsa (at_words hts hC.2.1 at_IllegalArgumentException) ato_IllegalArgumentException (hC.2.2.2.2.2.2.2.1.narrow hZ) (hC.2.2.2.2.2.2.2.2.1.narrow hZ) hS (hl.1.trans hml.symm) dX4_requireProperty_9 dX4_requireProperty_12 dX4_requireProperty_13 dX4_requireProperty_16 dX4_requireProperty_19 (fun x9 hx9 => (hT x9 hx9).elim) (Nat.le_of_ble_eq_true rfl) (Nat.le_of_ble_eq_true rfl) (Nat.le_of_ble_eq_true rfl) (Nat.le_of_ble_eq_true rfl) hlocks (fun t9 _ h8 h9 => XM.mk hP hD hS h8 h9) hS.2.2 (Nat.le_of_ble_eq_true rfl) (Nat.le_of_ble_eq_true rfl)

abbrev rm_X4_cell : Room := { frames := 7, cells := 0, slots := 0, locals := 142 }
theorem ok_X4_cell : okY yX4_cell 3 := ⟨by decide +kernel, by decide +kernel, by decide +kernel⟩
set_option maxHeartbeats 4000000 in
set_option maxRecDepth 100000 in
theorem c_X4_cell (l : Launch) (z0 : Nat) (D : va_G) (t : Nat → ClassId) (x0 : Nat) (s0 : Nat) (s1 : Nat) (e0 : Nat) (E : Nat → Nat) (A : Nat → Nat) (B : Nat → Nat) (G : Nat → Nat) (T : va_W) (μ : XS) (a1 : Int32) (a2 : Int32) (a3 : Int32) (res : Int32) (h : f_X4_cell μ a1 a2 a3 = some (.inl res)) : Met l yX4_cell (ws_ yX4_cell cX4_cell 4 (some .int)) rm_X4_cell (PR z0 D t [.ref (x0), .int a1, .int a2, .int a3] (XW x0 s0 s1 e0 E A B G T t μ)) (QR (some (.int res))) 0 0 FN := by
  refine Met.ofW (cc := cX4_cell) (maxL := 4) (ret := (some .int)) (by decide) rfl ?_
  intro p e s m args below meth c s₁ Bo hml hv
  obtain ⟨rfl, hC, hP⟩ := hv
  have hx := Bo.exec
  have hb := Bo.bytes
  have hr := Bo.returns
  have hts : ∀ w ∈ LA, w.before _ s = true := fun w hw => atoms_spec (ws := ws_ yX4_cell cX4_cell 4 (some .int)) Bo.pre w (List.mem_cons_of_mem _ hw)
  have hown : s.vm.findClass RX4 = some m.cls := findClass_of_methodNamed Bo.named
  have hlocks := Bo.notSynchronized
  have hK := hC.1
  have hl := lv_entry ([.ref (x0), .int a1, .int a2, .int a3]) (n := 4) (Nat.le_of_ble_eq_true rfl)
  rw [lg_entry_eq]
  generalize (lg_sl ([.ref (x0), .int a1, .int a2, .int a3]) ++ List.replicate (4 - (lg_sl ([.ref (x0), .int a1, .int a2, .int a3])).length) Slot.unset).toArray = ls at hl ⊢
  have hl : lv_has ls 4 [(0, .ref (x0)), (1, .int a1), (2, .int a2), (3, .int a3)] := hl
  unfold f_X4_cell at h
  refine lv_aload_n hx hb dX4_cell_0 rfl (lv_at hl 0 rfl) ?_
  refine lv_iload_n hx hb dX4_cell_1 rfl (lv_at hl 1 rfl) ?_
  refine lv_iload_n hx hb dX4_cell_2 rfl (lv_at hl 2 rfl) ?_
  obtain ⟨r1o, er1, h⟩ := obind h
  rcases r1o with r1 | Er1
  · replace h := sumL h
    refine call_R (va_runV (As := [.int a1, .int a2]) (rest := []) ⟨hx, hb, hml, hown, hts⟩ (c_X4_requireCell l z0 D t x0 s0 s1 e0 E A B G T μ a1 a2 _ er1) (kV hts qw554 qw556 qs20 qw1 qw557 ok_X4_requireCell ⟨Nat.le_of_ble_eq_true rfl, Nat.le_of_ble_eq_true rfl⟩) ⟨PR.blind, va_recv hK hP (ci := 5) (q0 := 0) rfl rfl, fun U hU hW => ⟨rfl, by rw [hU]; exact hC.warm hW, by rw [hU]; exact hP⟩⟩ rfl rfl hl.1 rfl (lv_room (Nat.le_of_ble_eq_true rfl)) dX4_cell_3 ⟨Nat.le_of_ble_eq_true rfl, Nat.le_of_ble_eq_true rfl⟩) ?_
    refine lv_iload_n hx hb dX4_cell_6 rfl (lv_at hl 3 rfl) ?_
    obtain ⟨r2o, er2, h⟩ := obind h
    rcases r2o with r2 | Er2
    · replace h := sumL h
      refine call_R (va_runS (As := [.int a3]) (rest := []) ⟨hx, hb, hml, hown, hts⟩ (c_X4_requireProperty l z0 D t a3 _ er2) (kS hts qw764 qw765 qw1 qw766 ok_X4_requireProperty ⟨Nat.le_of_ble_eq_true rfl, Nat.le_of_ble_eq_true rfl⟩) ⟨PR.blind, fun U hU hW => ⟨rfl, by rw [hU]; exact hC.warm hW, by rw [hU]; exact va_P_nil⟩⟩ rfl rfl hl.1 rfl (lv_room (Nat.le_of_ble_eq_true rfl)) dX4_cell_7 ⟨Nat.le_of_ble_eq_true rfl, Nat.le_of_ble_eq_true rfl⟩) ?_
      refine lv_iload_n hx hb dX4_cell_10 rfl (lv_at hl 3 rfl) ?_
      refine lv_if_ne (tgt := 27) hx hb dX4_cell_11 (by decide) (fun hc => ?_) (fun hc => ?_)
      · have h := iteF hc h
        refine lv_iload_n hx hb dX4_cell_27 rfl (lv_at hl 3 rfl) ?_
        refine lv_iconst (v := (1)) hx hb dX4_cell_28 (by decide) ?_
        refine lv_icmp_ne (tgt := 47) hx hb dX4_cell_29 (by decide) (fun hc => ?_) (fun hc => ?_)
        · have h := iteF hc h
          refine lv_aload_n hx hb dX4_cell_47 rfl (lv_at hl 0 rfl) ?_
          refine va_get hx hb hts inX4 hown hK hP 0 rfl rfl 4 (by decide) (hts _ qw159) (fun _ h9 => h9) rfl dX4_cell_48 ?_
          refine lv_iload_n hx hb dX4_cell_51 rfl (lv_at hl 1 rfl) ?_
          refine lv_iload_n hx hb dX4_cell_52 rfl (lv_at hl 2 rfl) ?_
          obtain ⟨r3, er3, h⟩ := obind h
          refine call_R (va_runS (As := [.int a1, .int a2]) (rest := [.ref (G 0)]) ⟨hx, hb, hml, hown, hts⟩ (c_X4_placeOf l z0 D t a1 a2 _ er3) (kS hts qw231 qw226 qw1 qw227 ok_X4_placeOf ⟨Nat.le_of_ble_eq_true rfl, Nat.le_of_ble_eq_true rfl⟩) ⟨PR.blind, fun U hU hW => ⟨rfl, by rw [hU]; exact hC.warm hW, by rw [hU]; exact va_P_nil⟩⟩ rfl rfl hl.1 rfl (lv_room (Nat.le_of_ble_eq_true rfl)) dX4_cell_53 ⟨Nat.le_of_ble_eq_true rfl, Nat.le_of_ble_eq_true rfl⟩) ?_
          obtain ⟨r4, er4, h⟩ := obind h
          refine call_R (va_runV (As := [.int r3]) (rest := []) ⟨hx, hb, hml, hown, hts⟩ (c_X1_coverCount l z0 D t G ((x_wide μ), (x_high μ), (x_pond μ), (x_walls μ), (x_paved μ), (x_tc μ), (x_flips μ), (x_refused μ), (x_names μ)) r3 _ er4) (kV hts qw772 qw773 qw774 qw8 qw775 ok_X1_coverCount ⟨Nat.le_of_ble_eq_true rfl, Nat.le_of_ble_eq_true rfl⟩) ⟨PR.blind, va_recv hK (sub_X_G (μ := μ) hP) (ci := 2) (q0 := 0) rfl rfl, fun U hU hW => ⟨rfl, by rw [hU]; exact hC.warm hW, by rw [hU]; exact (sub_X_G (μ := μ) hP)⟩⟩ rfl rfl hl.1 rfl (lv_room (Nat.le_of_ble_eq_true rfl)) dX4_cell_56 ⟨Nat.le_of_ble_eq_true rfl, Nat.le_of_ble_eq_true rfl⟩) ?_
          obtain rfl := Sum.inl.inj (Option.some.inj h)
          exact W.iret hx hb hr (fun t ht hW => ⟨rfl, ht⟩) (fun q hq => absurd hq List.not_mem_nil) dX4_cell_59
        · have h := iteT hc h
          refine lv_aload_n hx hb dX4_cell_32 rfl (lv_at hl 0 rfl) ?_
          refine va_get hx hb hts inX4 hown hK hP 0 rfl rfl 4 (by decide) (hts _ qw159) (fun _ h9 => h9) rfl dX4_cell_33 ?_
          refine lv_iload_n hx hb dX4_cell_36 rfl (lv_at hl 1 rfl) ?_
          refine lv_iload_n hx hb dX4_cell_37 rfl (lv_at hl 2 rfl) ?_
          obtain ⟨r5, er5, h⟩ := obind h
          refine call_R (va_runS (As := [.int a1, .int a2]) (rest := [.ref (G 0)]) ⟨hx, hb, hml, hown, hts⟩ (c_X4_cellAt l z0 D t a1 a2 _ er5) (kS hts qw578 qw229 qw1 qw230 ok_X4_cellAt ⟨Nat.le_of_ble_eq_true rfl, Nat.le_of_ble_eq_true rfl⟩) ⟨PR.blind, fun U hU hW => ⟨rfl, by rw [hU]; exact hC.warm hW, by rw [hU]; exact va_P_nil⟩⟩ rfl rfl hl.1 rfl (lv_room (Nat.le_of_ble_eq_true rfl)) dX4_cell_38 ⟨Nat.le_of_ble_eq_true rfl, Nat.le_of_ble_eq_true rfl⟩) ?_
          obtain ⟨r6, er6, h⟩ := obind h
          refine call_R (va_runV (As := [.long r5]) (rest := []) ⟨hx, hb, hml, hown, hts⟩ (c_X1_tripleOver l z0 D t G ((x_wide μ), (x_high μ), (x_pond μ), (x_walls μ), (x_paved μ), (x_tc μ), (x_flips μ), (x_refused μ), (x_names μ)) r5 _ er6) (kV hts qw636 qw637 qw638 qw8 qw639 ok_X1_tripleOver ⟨Nat.le_of_ble_eq_true rfl, Nat.le_of_ble_eq_true rfl⟩) ⟨PR.blind, va_recv hK (sub_X_G (μ := μ) hP) (ci := 2) (q0 := 0) rfl rfl, fun U hU hW => ⟨rfl, by rw [hU]; exact hC.warm hW, by rw [hU]; exact (sub_X_G (μ := μ) hP)⟩⟩ rfl rfl hl.1 rfl (lv_room (Nat.le_of_ble_eq_true rfl)) dX4_cell_41 ⟨Nat.le_of_ble_eq_true rfl, Nat.le_of_ble_eq_true rfl⟩) ?_
          refine lv_goto (tgt := 59) hx hb dX4_cell_44 (by decide) ?_
          obtain rfl := Sum.inl.inj (Option.some.inj h)
          exact W.iret hx hb hr (fun t ht hW => ⟨rfl, ht⟩) (fun q hq => absurd hq List.not_mem_nil) dX4_cell_59
      · have h := iteT hc h
        refine lv_aload_n hx hb dX4_cell_14 rfl (lv_at hl 0 rfl) ?_
        refine va_get hx hb hts inX4 hown hK hP 0 rfl rfl 4 (by decide) (hts _ qw159) (fun _ h9 => h9) rfl dX4_cell_15 ?_
        refine lv_iload_n hx hb dX4_cell_18 rfl (lv_at hl 1 rfl) ?_
        refine lv_iload_n hx hb dX4_cell_19 rfl (lv_at hl 2 rfl) ?_
        obtain ⟨r7, er7, h⟩ := obind h
        refine call_R (va_runS (As := [.int a1, .int a2]) (rest := [.ref (G 0)]) ⟨hx, hb, hml, hown, hts⟩ (c_X4_cellAt l z0 D t a1 a2 _ er7) (kS hts qw578 qw229 qw1 qw230 ok_X4_cellAt ⟨Nat.le_of_ble_eq_true rfl, Nat.le_of_ble_eq_true rfl⟩) ⟨PR.blind, fun U hU hW => ⟨rfl, by rw [hU]; exact hC.warm hW, by rw [hU]; exact va_P_nil⟩⟩ rfl rfl hl.1 rfl (lv_room (Nat.le_of_ble_eq_true rfl)) dX4_cell_20 ⟨Nat.le_of_ble_eq_true rfl, Nat.le_of_ble_eq_true rfl⟩) ?_
        obtain ⟨r8, er8, h⟩ := obind h
        refine call_R (va_runV (As := [.long r7]) (rest := []) ⟨hx, hb, hml, hown, hts⟩ (c_X1_kindOf l z0 D t G ((x_wide μ), (x_high μ), (x_pond μ), (x_walls μ), (x_paved μ), (x_tc μ), (x_flips μ), (x_refused μ), (x_names μ)) r7 _ er8) (kV hts qw768 qw769 qw770 qw8 qw771 ok_X1_kindOf ⟨Nat.le_of_ble_eq_true rfl, Nat.le_of_ble_eq_true rfl⟩) ⟨PR.blind, va_recv hK (sub_X_G (μ := μ) hP) (ci := 2) (q0 := 0) rfl rfl, fun U hU hW => ⟨rfl, by rw [hU]; exact hC.warm hW, by rw [hU]; exact (sub_X_G (μ := μ) hP)⟩⟩ rfl rfl hl.1 rfl (lv_room (Nat.le_of_ble_eq_true rfl)) dX4_cell_23 ⟨Nat.le_of_ble_eq_true rfl, Nat.le_of_ble_eq_true rfl⟩) ?_
        obtain rfl := Sum.inl.inj (Option.some.inj h)
        exact W.iret hx hb hr (fun t ht hW => ⟨rfl, ht⟩) (fun q hq => absurd hq List.not_mem_nil) dX4_cell_26
    · replace h := sumR h
      exact absurd (Option.some.inj h) (fun z => by cases z)
  · replace h := sumR h
    exact absurd (Option.some.inj h) (fun z => by cases z)

abbrev rx_X4_cell : Room := { frames := 7, cells := 1, slots := 6, locals := 142 }
set_option maxHeartbeats 4000000 in
set_option maxRecDepth 100000 in
theorem x_X4_cell (l : Launch) (hl9 : l.stackTraces = false) (z0 : Nat) (D : va_G) (t : Nat → ClassId) (x0 : Nat) (s0 : Nat) (s1 : Nat) (e0 : Nat) (E : Nat → Nat) (A : Nat → Nat) (B : Nat → Nat) (G : Nat → Nat) (T : va_W) (μ : XS) (a1 : Int32) (a2 : Int32) (a3 : Int32) (xE : String) (sz : Nat) (h : f_X4_cell μ a1 a2 a3 = some (.inr xE)) : vx_Met l yX4_cell (ws_ yX4_cell cX4_cell 4 (some .int)) rx_X4_cell (PM z0 D t [.ref (x0), .int a1, .int a2, .int a3] (XW x0 s0 s1 e0 E A B G T t μ) (XL x0 s0 s1 e0 E A B G T μ) sz) (fun _ _ _ _ => False) (XM xE D (XW x0 s0 s1 e0 E A B G T t μ) (XL x0 s0 s1 e0 E A B G T μ) sz) 1 6 (OA (XL x0 s0 s1 e0 E A B G T μ) sz) := by
  refine vx_ofW (cc := cX4_cell) (maxL := 4) (ret := (some .int)) (by decide) rfl ?_
  intro p e s m args below meth c s₁ Bo hml hT hv
  obtain ⟨rfl, hC, hsz, hP, hD, hZ⟩ := hv
  have hx := Bo.exec
  have hb := Bo.bytes
  have hr := Bo.returns
  have hts : ∀ w ∈ LA, w.before _ s = true := fun w hw => atoms_spec (ws := ws_ yX4_cell cX4_cell 4 (some .int)) Bo.pre w (List.mem_cons_of_mem _ hw)
  have hown : s.vm.findClass RX4 = some m.cls := findClass_of_methodNamed Bo.named
  have hlocks := Bo.notSynchronized
  have hK := hC.1
  subst hsz
  have hl := lv_entry ([.ref (x0), .int a1, .int a2, .int a3]) (n := 4) (Nat.le_of_ble_eq_true rfl)
  rw [lg_entry_eq]
  generalize (lg_sl ([.ref (x0), .int a1, .int a2, .int a3]) ++ List.replicate (4 - (lg_sl ([.ref (x0), .int a1, .int a2, .int a3])).length) Slot.unset).toArray = ls at hl ⊢
  have hl : lv_has ls 4 [(0, .ref (x0)), (1, .int a1), (2, .int a2), (3, .int a3)] := hl
  suffices K9 : ∀ (H : Heap) (locs : List Loc), va_P D vwCl (XW x0 s0 s1 e0 E A B G T t μ) H → va_S (OA (XL x0 s0 s1 e0 E A B G T μ) s.heap.size) s.heap H locs → W p l e (headSpec (ws_ yX4_cell cX4_cell 4 (some .int)) rx_X4_cell).room s m ([.ref (x0), .int a1, .int a2, .int a3] : List Value).toArray below meth c H locs 0 0 (vx_MQ below (fun _ _ _ _ => False) (XM xE D (XW x0 s0 s1 e0 E A B G T t μ) (XL x0 s0 s1 e0 E A B G T μ) s.heap.size) ([.ref (x0), .int a1, .int a2, .int a3] : List Value).toArray s 1 6 (OA (XL x0 s0 s1 e0 E A B G T μ) s.heap.size)) (F0 m 0 ls []) from K9 s.heap [] hP va_S.rf
  intro H locs hP hS
  have hSz : s.heap.size ≤ H.size := hS.1
  unfold f_X4_cell at h
  refine lv_aload_n hx hb dX4_cell_0 rfl (lv_at hl 0 rfl) ?_
  refine lv_iload_n hx hb dX4_cell_1 rfl (lv_at hl 1 rfl) ?_
  refine lv_iload_n hx hb dX4_cell_2 rfl (lv_at hl 2 rfl) ?_
  obtain ⟨r1o, er1, h⟩ := obind h
  rcases r1o with r1 | Er1
  · replace h := sumL h
    refine call_R (va_runV (As := [.int a1, .int a2]) (rest := []) ⟨hx, hb, hml, hown, hts⟩ (c_X4_requireCell l z0 D t x0 s0 s1 e0 E A B G T μ a1 a2 _ er1) (kV hts qw554 qw556 qs20 qw1 qw557 ok_X4_requireCell ⟨Nat.le_of_ble_eq_true rfl, Nat.le_of_ble_eq_true rfl⟩) ⟨PR.blind, va_recv hK hP (ci := 5) (q0 := 0) rfl rfl, fun U hU hW => ⟨rfl, by rw [hU]; exact (hC.at hS hZ).warm hW, by rw [hU]; exact hP⟩⟩ rfl rfl hl.1 rfl (lv_room (Nat.le_of_ble_eq_true rfl)) dX4_cell_3 ⟨Nat.le_of_ble_eq_true rfl, Nat.le_of_ble_eq_true rfl⟩) ?_
    refine lv_iload_n hx hb dX4_cell_6 rfl (lv_at hl 3 rfl) ?_
    obtain ⟨r2o, er2, h⟩ := obind h
    rcases r2o with r2 | Er2
    · replace h := sumL h
      refine call_R (va_runS (As := [.int a3]) (rest := []) ⟨hx, hb, hml, hown, hts⟩ (c_X4_requireProperty l z0 D t a3 _ er2) (kS hts qw764 qw765 qw1 qw766 ok_X4_requireProperty ⟨Nat.le_of_ble_eq_true rfl, Nat.le_of_ble_eq_true rfl⟩) ⟨PR.blind, fun U hU hW => ⟨rfl, by rw [hU]; exact (hC.at hS hZ).warm hW, by rw [hU]; exact va_P_nil⟩⟩ rfl rfl hl.1 rfl (lv_room (Nat.le_of_ble_eq_true rfl)) dX4_cell_7 ⟨Nat.le_of_ble_eq_true rfl, Nat.le_of_ble_eq_true rfl⟩) ?_
      refine lv_iload_n hx hb dX4_cell_10 rfl (lv_at hl 3 rfl) ?_
      refine lv_if_ne (tgt := 27) hx hb dX4_cell_11 (by decide) (fun hc => ?_) (fun hc => ?_)
      · have h := iteF hc h
        refine lv_iload_n hx hb dX4_cell_27 rfl (lv_at hl 3 rfl) ?_
        refine lv_iconst (v := (1)) hx hb dX4_cell_28 (by decide) ?_
        refine lv_icmp_ne (tgt := 47) hx hb dX4_cell_29 (by decide) (fun hc => ?_) (fun hc => ?_)
        · have h := iteF hc h
          refine lv_aload_n hx hb dX4_cell_47 rfl (lv_at hl 0 rfl) ?_
          refine va_get hx hb hts inX4 hown hK hP 0 rfl rfl 4 (by decide) (hts _ qw159) (fun _ h9 => h9) rfl dX4_cell_48 ?_
          refine lv_iload_n hx hb dX4_cell_51 rfl (lv_at hl 1 rfl) ?_
          refine lv_iload_n hx hb dX4_cell_52 rfl (lv_at hl 2 rfl) ?_
          obtain ⟨r3, er3, h⟩ := obind h
          refine call_R (va_runS (As := [.int a1, .int a2]) (rest := [.ref (G 0)]) ⟨hx, hb, hml, hown, hts⟩ (c_X4_placeOf l z0 D t a1 a2 _ er3) (kS hts qw231 qw226 qw1 qw227 ok_X4_placeOf ⟨Nat.le_of_ble_eq_true rfl, Nat.le_of_ble_eq_true rfl⟩) ⟨PR.blind, fun U hU hW => ⟨rfl, by rw [hU]; exact (hC.at hS hZ).warm hW, by rw [hU]; exact va_P_nil⟩⟩ rfl rfl hl.1 rfl (lv_room (Nat.le_of_ble_eq_true rfl)) dX4_cell_53 ⟨Nat.le_of_ble_eq_true rfl, Nat.le_of_ble_eq_true rfl⟩) ?_
          obtain ⟨r4, er4, h⟩ := obind h
          refine call_R (va_runV (As := [.int r3]) (rest := []) ⟨hx, hb, hml, hown, hts⟩ (c_X1_coverCount l z0 D t G ((x_wide μ), (x_high μ), (x_pond μ), (x_walls μ), (x_paved μ), (x_tc μ), (x_flips μ), (x_refused μ), (x_names μ)) r3 _ er4) (kV hts qw772 qw773 qw774 qw8 qw775 ok_X1_coverCount ⟨Nat.le_of_ble_eq_true rfl, Nat.le_of_ble_eq_true rfl⟩) ⟨PR.blind, va_recv hK (sub_X_G (μ := μ) hP) (ci := 2) (q0 := 0) rfl rfl, fun U hU hW => ⟨rfl, by rw [hU]; exact (hC.at hS hZ).warm hW, by rw [hU]; exact (sub_X_G (μ := μ) hP)⟩⟩ rfl rfl hl.1 rfl (lv_room (Nat.le_of_ble_eq_true rfl)) dX4_cell_56 ⟨Nat.le_of_ble_eq_true rfl, Nat.le_of_ble_eq_true rfl⟩) ?_
          exact absurd (Option.some.inj h) (fun z => by cases z)
        · have h := iteT hc h
          refine lv_aload_n hx hb dX4_cell_32 rfl (lv_at hl 0 rfl) ?_
          refine va_get hx hb hts inX4 hown hK hP 0 rfl rfl 4 (by decide) (hts _ qw159) (fun _ h9 => h9) rfl dX4_cell_33 ?_
          refine lv_iload_n hx hb dX4_cell_36 rfl (lv_at hl 1 rfl) ?_
          refine lv_iload_n hx hb dX4_cell_37 rfl (lv_at hl 2 rfl) ?_
          obtain ⟨r5, er5, h⟩ := obind h
          refine call_R (va_runS (As := [.int a1, .int a2]) (rest := [.ref (G 0)]) ⟨hx, hb, hml, hown, hts⟩ (c_X4_cellAt l z0 D t a1 a2 _ er5) (kS hts qw578 qw229 qw1 qw230 ok_X4_cellAt ⟨Nat.le_of_ble_eq_true rfl, Nat.le_of_ble_eq_true rfl⟩) ⟨PR.blind, fun U hU hW => ⟨rfl, by rw [hU]; exact (hC.at hS hZ).warm hW, by rw [hU]; exact va_P_nil⟩⟩ rfl rfl hl.1 rfl (lv_room (Nat.le_of_ble_eq_true rfl)) dX4_cell_38 ⟨Nat.le_of_ble_eq_true rfl, Nat.le_of_ble_eq_true rfl⟩) ?_
          obtain ⟨r6, er6, h⟩ := obind h
          refine call_R (va_runV (As := [.long r5]) (rest := []) ⟨hx, hb, hml, hown, hts⟩ (c_X1_tripleOver l z0 D t G ((x_wide μ), (x_high μ), (x_pond μ), (x_walls μ), (x_paved μ), (x_tc μ), (x_flips μ), (x_refused μ), (x_names μ)) r5 _ er6) (kV hts qw636 qw637 qw638 qw8 qw639 ok_X1_tripleOver ⟨Nat.le_of_ble_eq_true rfl, Nat.le_of_ble_eq_true rfl⟩) ⟨PR.blind, va_recv hK (sub_X_G (μ := μ) hP) (ci := 2) (q0 := 0) rfl rfl, fun U hU hW => ⟨rfl, by rw [hU]; exact (hC.at hS hZ).warm hW, by rw [hU]; exact (sub_X_G (μ := μ) hP)⟩⟩ rfl rfl hl.1 rfl (lv_room (Nat.le_of_ble_eq_true rfl)) dX4_cell_41 ⟨Nat.le_of_ble_eq_true rfl, Nat.le_of_ble_eq_true rfl⟩) ?_
          refine lv_goto (tgt := 59) hx hb dX4_cell_44 (by decide) ?_
          exact absurd (Option.some.inj h) (fun z => by cases z)
      · have h := iteT hc h
        refine lv_aload_n hx hb dX4_cell_14 rfl (lv_at hl 0 rfl) ?_
        refine va_get hx hb hts inX4 hown hK hP 0 rfl rfl 4 (by decide) (hts _ qw159) (fun _ h9 => h9) rfl dX4_cell_15 ?_
        refine lv_iload_n hx hb dX4_cell_18 rfl (lv_at hl 1 rfl) ?_
        refine lv_iload_n hx hb dX4_cell_19 rfl (lv_at hl 2 rfl) ?_
        obtain ⟨r7, er7, h⟩ := obind h
        refine call_R (va_runS (As := [.int a1, .int a2]) (rest := [.ref (G 0)]) ⟨hx, hb, hml, hown, hts⟩ (c_X4_cellAt l z0 D t a1 a2 _ er7) (kS hts qw578 qw229 qw1 qw230 ok_X4_cellAt ⟨Nat.le_of_ble_eq_true rfl, Nat.le_of_ble_eq_true rfl⟩) ⟨PR.blind, fun U hU hW => ⟨rfl, by rw [hU]; exact (hC.at hS hZ).warm hW, by rw [hU]; exact va_P_nil⟩⟩ rfl rfl hl.1 rfl (lv_room (Nat.le_of_ble_eq_true rfl)) dX4_cell_20 ⟨Nat.le_of_ble_eq_true rfl, Nat.le_of_ble_eq_true rfl⟩) ?_
        obtain ⟨r8, er8, h⟩ := obind h
        refine call_R (va_runV (As := [.long r7]) (rest := []) ⟨hx, hb, hml, hown, hts⟩ (c_X1_kindOf l z0 D t G ((x_wide μ), (x_high μ), (x_pond μ), (x_walls μ), (x_paved μ), (x_tc μ), (x_flips μ), (x_refused μ), (x_names μ)) r7 _ er8) (kV hts qw768 qw769 qw770 qw8 qw771 ok_X1_kindOf ⟨Nat.le_of_ble_eq_true rfl, Nat.le_of_ble_eq_true rfl⟩) ⟨PR.blind, va_recv hK (sub_X_G (μ := μ) hP) (ci := 2) (q0 := 0) rfl rfl, fun U hU hW => ⟨rfl, by rw [hU]; exact (hC.at hS hZ).warm hW, by rw [hU]; exact (sub_X_G (μ := μ) hP)⟩⟩ rfl rfl hl.1 rfl (lv_room (Nat.le_of_ble_eq_true rfl)) dX4_cell_23 ⟨Nat.le_of_ble_eq_true rfl, Nat.le_of_ble_eq_true rfl⟩) ?_
        exact absurd (Option.some.inj h) (fun z => by cases z)
    · replace h := sumR h
      obtain rfl := Sum.inr.inj (Option.some.inj h)
      refine call_X (vx_runS (As := [.int a3]) (rest := []) ⟨hx, hb, hml, hown, hts⟩ (x_X4_requireProperty l hl9 z0 D t a3 _ H.size er2) (kS hts qw764 qw765 qw1 qw766 ok_X4_requireProperty ⟨Nat.le_of_ble_eq_true rfl, Nat.le_of_ble_eq_true rfl⟩) ⟨PM.blind, fun U hU hW => ⟨rfl, by rw [hU]; exact (hC.at hS hZ).warm hW, by rw [hU], by rw [hU]; exact va_P_nil, ⟨(va_D_nil (A := OA [] s.heap.size)).1, fun _ _ h9 => Or.inl (in_map (L := []) rfl h9)⟩, fun q hq => hZ q (OA.nil hSz q hq)⟩⟩ rfl rfl hl.1 rfl (lv_room (Nat.le_of_ble_eq_true rfl)) dX4_cell_7 ⟨Nat.le_of_ble_eq_true rfl, Nat.le_of_ble_eq_true rfl⟩) hS (OA.nil hSz) (fun H locs q9 ce9 hP1 hD1 hS hsz1 hk1 hce hcv hcc => ?_)
      have hP : va_P D vwCl (XW x0 s0 s1 e0 E A B G T t μ) H := va_P.keptN hP hk1
      exact vx_out (fun x9 hx9 => (hT x9 hx9).elim) hlocks hce hcv hcc (fun t9 h8 _ => XM.mk2 hP hD hS h8) hS.2.2 (Nat.le_of_ble_eq_true rfl) (Nat.le_of_ble_eq_true rfl)
  · replace h := sumR h
    obtain rfl := Sum.inr.inj (Option.some.inj h)
    refine call_X (vx_runV (As := [.int a1, .int a2]) (rest := []) ⟨hx, hb, hml, hown, hts⟩ (x_X4_requireCell l hl9 z0 D t x0 s0 s1 e0 E A B G T μ a1 a2 _ H.size er1) (kV hts qw554 qw556 qs20 qw1 qw557 ok_X4_requireCell ⟨Nat.le_of_ble_eq_true rfl, Nat.le_of_ble_eq_true rfl⟩) ⟨PM.blind, va_recv hK hP (ci := 5) (q0 := 0) rfl rfl, fun U hU hW => ⟨rfl, by rw [hU]; exact (hC.at hS hZ).warm hW, by rw [hU], by rw [hU]; exact hP, ⟨hD.1, fun _ _ h9 => Or.inl (in_map (L := (XL x0 s0 s1 e0 E A B G T μ)) rfl h9)⟩, fun q hq => hZ q (OA.ofD hD rfl hSz q hq)⟩⟩ rfl rfl hl.1 rfl (lv_room (Nat.le_of_ble_eq_true rfl)) dX4_cell_3 ⟨Nat.le_of_ble_eq_true rfl, Nat.le_of_ble_eq_true rfl⟩) hS (OA.ofD hD rfl hSz) (fun H locs q9 ce9 hP1 hD1 hS hsz1 hk1 hce hcv hcc => ?_)
    have hP : va_P D vwCl (XW x0 s0 s1 e0 E A B G T t μ) H := hP1
    have hD : va_D (OA (XL x0 s0 s1 e0 E A B G T μ) s.heap.size) (XW x0 s0 s1 e0 E A B G T t μ) := hD1.weaken (fun _ q _ h9 => OA.ofD hD rfl hSz q.1 h9)
    exact vx_out (fun x9 hx9 => (hT x9 hx9).elim) hlocks hce hcv hcc (fun t9 h8 _ => XM.mk2 hP hD hS h8) hS.2.2 (Nat.le_of_ble_eq_true rfl) (Nat.le_of_ble_eq_true rfl)

abbrev rm_X4_row : Room := { frames := 7, cells := 0, slots := 0, locals := 140 }
theorem ok_X4_row : okY yX4_row 2 := ⟨by decide +kernel, by decide +kernel, by decide +kernel⟩
set_option maxHeartbeats 4000000 in
set_option maxRecDepth 100000 in
theorem c_X4_row (l : Launch) (z0 : Nat) (D : va_G) (t : Nat → ClassId) (x0 : Nat) (s0 : Nat) (s1 : Nat) (e0 : Nat) (E : Nat → Nat) (A : Nat → Nat) (B : Nat → Nat) (G : Nat → Nat) (T : va_W) (μ : XS) (a1 : Int32) (a2 : Int32) (res : Int32) (h : f_X4_row μ a1 a2 = some (.inl res)) : Met l yX4_row (ws_ yX4_row cX4_row 3 (some .int)) rm_X4_row (PR z0 D t [.ref (x0), .int a1, .int a2] (XW x0 s0 s1 e0 E A B G T t μ)) (QR (some (.int res))) 0 0 FN := by
  refine Met.ofW (cc := cX4_row) (maxL := 3) (ret := (some .int)) (by decide) rfl ?_
  intro p e s m args below meth c s₁ Bo hml hv
  obtain ⟨rfl, hC, hP⟩ := hv
  have hx := Bo.exec
  have hb := Bo.bytes
  have hr := Bo.returns
  have hts : ∀ w ∈ LA, w.before _ s = true := fun w hw => atoms_spec (ws := ws_ yX4_row cX4_row 3 (some .int)) Bo.pre w (List.mem_cons_of_mem _ hw)
  have hown : s.vm.findClass RX4 = some m.cls := findClass_of_methodNamed Bo.named
  have hlocks := Bo.notSynchronized
  have hK := hC.1
  have hl := lv_entry ([.ref (x0), .int a1, .int a2]) (n := 3) (Nat.le_of_ble_eq_true rfl)
  rw [lg_entry_eq]
  generalize (lg_sl ([.ref (x0), .int a1, .int a2]) ++ List.replicate (3 - (lg_sl ([.ref (x0), .int a1, .int a2])).length) Slot.unset).toArray = ls at hl ⊢
  have hl : lv_has ls 3 [(0, .ref (x0)), (1, .int a1), (2, .int a2)] := hl
  unfold f_X4_row at h
  refine lv_iload_n hx hb dX4_row_0 rfl (lv_at hl 1 rfl) ?_
  refine lv_if_lt (tgt := 15) hx hb dX4_row_1 (by decide) (fun hc => ?_) (fun hc => ?_)
  · have h := iteT hc h
    exact absurd (Option.some.inj h) (fun z => by cases z)
  · have h := iteF hc h
    refine lv_iload_n hx hb dX4_row_4 rfl (lv_at hl 1 rfl) ?_
    refine lv_aload_n hx hb dX4_row_5 rfl (lv_at hl 0 rfl) ?_
    refine va_get hx hb hts inX4 hown hK hP 0 rfl rfl 4 (by decide) (hts _ qw159) (fun _ h9 => h9) rfl dX4_row_6 ?_
    refine va_get hx hb hts inX1 hown hK hP 13 rfl rfl 1 (by decide) (hts _ qw122) (fun _ h9 => h9) rfl dX4_row_9 ?_
    refine lv_icmp_lt (tgt := 25) hx hb dX4_row_12 (by decide) (fun hc => ?_) (fun hc => ?_)
    · have h := iteT hc h
      refine lv_iload_n hx hb dX4_row_25 rfl (lv_at hl 2 rfl) ?_
      obtain ⟨r1o, er1, h⟩ := obind h
      rcases r1o with r1 | Er1
      · replace h := sumL h
        refine call_R (va_runS (As := [.int a2]) (rest := []) ⟨hx, hb, hml, hown, hts⟩ (c_X4_requireProperty l z0 D t a2 _ er1) (kS hts qw764 qw765 qw1 qw766 ok_X4_requireProperty ⟨Nat.le_of_ble_eq_true rfl, Nat.le_of_ble_eq_true rfl⟩) ⟨PR.blind, fun U hU hW => ⟨rfl, by rw [hU]; exact hC.warm hW, by rw [hU]; exact va_P_nil⟩⟩ rfl rfl hl.1 rfl (lv_room (Nat.le_of_ble_eq_true rfl)) dX4_row_26 ⟨Nat.le_of_ble_eq_true rfl, Nat.le_of_ble_eq_true rfl⟩) ?_
        refine lv_iload_n hx hb dX4_row_29 rfl (lv_at hl 2 rfl) ?_
        refine lv_if_ne (tgt := 45) hx hb dX4_row_30 (by decide) (fun hc => ?_) (fun hc => ?_)
        · have h := iteF hc h
          refine lv_iload_n hx hb dX4_row_45 rfl (lv_at hl 2 rfl) ?_
          refine lv_iconst (v := (1)) hx hb dX4_row_46 (by decide) ?_
          obtain ⟨o2, eo2, h⟩ := obind h
          have hJ67_o2 : ∀ ls : Array Slot, lv_has ls 3 [(1, .int a1)] → W p l e (headSpec (ws_ yX4_row cX4_row 3 (some .int)) rm_X4_row).room s m ([.ref (x0), .int a1, .int a2] : List Value).toArray below meth c s.heap [] 0 0 (MQ below (QR (some (.int res))) ([.ref (x0), .int a1, .int a2] : List Value).toArray s 0 0 FN) (F0 m 67 ls [.long o2]) := by
            intro ls hl
            refine lv_iload_n hx hb dX4_row_67 rfl (lv_at hl 0 rfl) ?_
            obtain ⟨r3, er3, h⟩ := obind h
            refine call_R (va_runS (As := [.long o2, .int a1]) (rest := []) ⟨hx, hb, hml, hown, hts⟩ (c_X4_rowMask l z0 D t o2 a1 _ er3) (kS hts qw796 qw797 qw1 qw798 ok_X4_rowMask ⟨Nat.le_of_ble_eq_true rfl, Nat.le_of_ble_eq_true rfl⟩) ⟨PR.blind, fun U hU hW => ⟨rfl, by rw [hU]; exact hC.warm hW, by rw [hU]; exact va_P_nil⟩⟩ rfl rfl hl.1 rfl (lv_room (Nat.le_of_ble_eq_true rfl)) dX4_row_68 ⟨Nat.le_of_ble_eq_true rfl, Nat.le_of_ble_eq_true rfl⟩) ?_
            obtain rfl := Sum.inl.inj (Option.some.inj h)
            exact W.iret hx hb hr (fun t ht hW => ⟨rfl, ht⟩) (fun q hq => absurd hq List.not_mem_nil) dX4_row_71
          have h := eo2
          clear eo2
          refine lv_icmp_ne (tgt := 60) hx hb dX4_row_47 (by decide) (fun hc => ?_) (fun hc => ?_)
          · have h := iteF hc h
            refine lv_aload_n hx hb dX4_row_60 rfl (lv_at hl 0 rfl) ?_
            refine va_get hx hb hts inX4 hown hK hP 0 rfl rfl 4 (by decide) (hts _ qw159) (fun _ h9 => h9) rfl dX4_row_61 ?_
            refine va_get hx hb hts inX1 hown hK hP 13 rfl rfl 4 (by decide) (hts _ qw128) (fun _ h9 => h9) rfl dX4_row_64 ?_
            obtain rfl := Option.some.inj h
            exact hJ67_o2 ls (lv_sub hl [1] rfl)
          · have h := iteT hc h
            refine lv_aload_n hx hb dX4_row_50 rfl (lv_at hl 0 rfl) ?_
            refine va_get hx hb hts inX4 hown hK hP 0 rfl rfl 4 (by decide) (hts _ qw159) (fun _ h9 => h9) rfl dX4_row_51 ?_
            refine va_get hx hb hts inX1 hown hK hP 13 rfl rfl 3 (by decide) (hts _ qw126) (fun _ h9 => h9) rfl dX4_row_54 ?_
            refine lv_goto (tgt := 67) hx hb dX4_row_57 (by decide) ?_
            obtain rfl := Option.some.inj h
            exact hJ67_o2 ls (lv_sub hl [1] rfl)
        · have h := iteT hc h
          refine lv_aload_n hx hb dX4_row_33 rfl (lv_at hl 0 rfl) ?_
          refine va_get hx hb hts inX4 hown hK hP 0 rfl rfl 4 (by decide) (hts _ qw159) (fun _ h9 => h9) rfl dX4_row_34 ?_
          obtain ⟨r4, er4, h⟩ := obind h
          refine call_R (va_runV (As := []) (rest := []) ⟨hx, hb, hml, hown, hts⟩ (c_X1_freeCells l z0 D t G ((x_wide μ), (x_high μ), (x_pond μ), (x_walls μ), (x_paved μ), (x_tc μ), (x_flips μ), (x_refused μ), (x_names μ)) _ er4) (kV hts qw236 qw237 qw238 qw8 qw239 ok_X1_freeCells ⟨Nat.le_of_ble_eq_true rfl, Nat.le_of_ble_eq_true rfl⟩) ⟨PR.blind, va_recv hK (sub_X_G (μ := μ) hP) (ci := 2) (q0 := 0) rfl rfl, fun U hU hW => ⟨rfl, by rw [hU]; exact hC.warm hW, by rw [hU]; exact (sub_X_G (μ := μ) hP)⟩⟩ rfl rfl hl.1 rfl (lv_room (Nat.le_of_ble_eq_true rfl)) dX4_row_37 ⟨Nat.le_of_ble_eq_true rfl, Nat.le_of_ble_eq_true rfl⟩) ?_
          refine lv_iload_n hx hb dX4_row_40 rfl (lv_at hl 1 rfl) ?_
          obtain ⟨r5, er5, h⟩ := obind h
          refine call_R (va_runS (As := [.long r4, .int a1]) (rest := []) ⟨hx, hb, hml, hown, hts⟩ (c_X4_rowMask l z0 D t r4 a1 _ er5) (kS hts qw796 qw797 qw1 qw798 ok_X4_rowMask ⟨Nat.le_of_ble_eq_true rfl, Nat.le_of_ble_eq_true rfl⟩) ⟨PR.blind, fun U hU hW => ⟨rfl, by rw [hU]; exact hC.warm hW, by rw [hU]; exact va_P_nil⟩⟩ rfl rfl hl.1 rfl (lv_room (Nat.le_of_ble_eq_true rfl)) dX4_row_41 ⟨Nat.le_of_ble_eq_true rfl, Nat.le_of_ble_eq_true rfl⟩) ?_
          obtain rfl := Sum.inl.inj (Option.some.inj h)
          exact W.iret hx hb hr (fun t ht hW => ⟨rfl, ht⟩) (fun q hq => absurd hq List.not_mem_nil) dX4_row_44
      · replace h := sumR h
        exact absurd (Option.some.inj h) (fun z => by cases z)
    · have h := iteF hc h
      exact absurd (Option.some.inj h) (fun z => by cases z)

abbrev rx_X4_row : Room := { frames := 7, cells := 1, slots := 6, locals := 140 }
set_option maxHeartbeats 4000000 in
set_option maxRecDepth 100000 in
theorem x_X4_row (l : Launch) (hl9 : l.stackTraces = false) (z0 : Nat) (D : va_G) (t : Nat → ClassId) (x0 : Nat) (s0 : Nat) (s1 : Nat) (e0 : Nat) (E : Nat → Nat) (A : Nat → Nat) (B : Nat → Nat) (G : Nat → Nat) (T : va_W) (μ : XS) (a1 : Int32) (a2 : Int32) (xE : String) (sz : Nat) (h : f_X4_row μ a1 a2 = some (.inr xE)) : vx_Met l yX4_row (ws_ yX4_row cX4_row 3 (some .int)) rx_X4_row (PM z0 D t [.ref (x0), .int a1, .int a2] (XW x0 s0 s1 e0 E A B G T t μ) (XL x0 s0 s1 e0 E A B G T μ) sz) (fun _ _ _ _ => False) (XM xE D (XW x0 s0 s1 e0 E A B G T t μ) (XL x0 s0 s1 e0 E A B G T μ) sz) 1 6 (OA (XL x0 s0 s1 e0 E A B G T μ) sz) := by
  refine vx_ofW (cc := cX4_row) (maxL := 3) (ret := (some .int)) (by decide) rfl ?_
  intro p e s m args below meth c s₁ Bo hml hT hv
  obtain ⟨rfl, hC, hsz, hP, hD, hZ⟩ := hv
  have hx := Bo.exec
  have hb := Bo.bytes
  have hr := Bo.returns
  have hts : ∀ w ∈ LA, w.before _ s = true := fun w hw => atoms_spec (ws := ws_ yX4_row cX4_row 3 (some .int)) Bo.pre w (List.mem_cons_of_mem _ hw)
  have hown : s.vm.findClass RX4 = some m.cls := findClass_of_methodNamed Bo.named
  have hlocks := Bo.notSynchronized
  have hK := hC.1
  subst hsz
  have hl := lv_entry ([.ref (x0), .int a1, .int a2]) (n := 3) (Nat.le_of_ble_eq_true rfl)
  rw [lg_entry_eq]
  generalize (lg_sl ([.ref (x0), .int a1, .int a2]) ++ List.replicate (3 - (lg_sl ([.ref (x0), .int a1, .int a2])).length) Slot.unset).toArray = ls at hl ⊢
  have hl : lv_has ls 3 [(0, .ref (x0)), (1, .int a1), (2, .int a2)] := hl
  suffices K9 : ∀ (H : Heap) (locs : List Loc), va_P D vwCl (XW x0 s0 s1 e0 E A B G T t μ) H → va_S (OA (XL x0 s0 s1 e0 E A B G T μ) s.heap.size) s.heap H locs → W p l e (headSpec (ws_ yX4_row cX4_row 3 (some .int)) rx_X4_row).room s m ([.ref (x0), .int a1, .int a2] : List Value).toArray below meth c H locs 0 0 (vx_MQ below (fun _ _ _ _ => False) (XM xE D (XW x0 s0 s1 e0 E A B G T t μ) (XL x0 s0 s1 e0 E A B G T μ) s.heap.size) ([.ref (x0), .int a1, .int a2] : List Value).toArray s 1 6 (OA (XL x0 s0 s1 e0 E A B G T μ) s.heap.size)) (F0 m 0 ls []) from K9 s.heap [] hP va_S.rf
  intro H locs hP hS
  have hSz : s.heap.size ≤ H.size := hS.1
  unfold f_X4_row at h
  refine lv_iload_n hx hb dX4_row_0 rfl (lv_at hl 1 rfl) ?_
  refine lv_if_lt (tgt := 15) hx hb dX4_row_1 (by decide) (fun hc => ?_) (fun hc => ?_)
  · have h := iteT hc h
    obtain rfl := Sum.inr.inj (Option.some.inj h)
    obtain ⟨sa, hsa⟩ := hC.2.2.2.2.2.1 ("BentGardens", 252, "there is no such row") (by decide +kernel)
    refine vx_throwS hx hb hl9 hown (cls := "java/lang/IndexOutOfBoundsException") (names := ["java/lang/RuntimeException", "java/lang/Exception"]) (by decide) (by decide) (hts _ qw562) (hts _ qw24) hsa (at_words hts hC.2.1 at_IndexOutOfBoundsException) ato_IndexOutOfBoundsException (hC.2.2.2.2.2.2.2.1.narrow hZ) (hC.2.2.2.2.2.2.2.2.1.narrow hZ) hS (hl.1.trans hml.symm) dX4_row_15 dX4_row_18 dX4_row_19 dX4_row_21 dX4_row_24 (fun x9 hx9 => (hT x9 hx9).elim) (Nat.le_of_ble_eq_true rfl) (Nat.le_of_ble_eq_true rfl) (Nat.le_of_ble_eq_true rfl) (Nat.le_of_ble_eq_true rfl) hlocks (fun t9 _ h8 h9 => XM.mk hP hD hS h8 h9) hS.2.2 (Nat.le_of_ble_eq_true rfl) (Nat.le_of_ble_eq_true rfl)
  · have h := iteF hc h
    refine lv_iload_n hx hb dX4_row_4 rfl (lv_at hl 1 rfl) ?_
    refine lv_aload_n hx hb dX4_row_5 rfl (lv_at hl 0 rfl) ?_
    refine va_get hx hb hts inX4 hown hK hP 0 rfl rfl 4 (by decide) (hts _ qw159) (fun _ h9 => h9) rfl dX4_row_6 ?_
    refine va_get hx hb hts inX1 hown hK hP 13 rfl rfl 1 (by decide) (hts _ qw122) (fun _ h9 => h9) rfl dX4_row_9 ?_
    refine lv_icmp_lt (tgt := 25) hx hb dX4_row_12 (by decide) (fun hc => ?_) (fun hc => ?_)
    · have h := iteT hc h
      refine lv_iload_n hx hb dX4_row_25 rfl (lv_at hl 2 rfl) ?_
      obtain ⟨r1o, er1, h⟩ := obind h
      rcases r1o with r1 | Er1
      · replace h := sumL h
        refine call_R (va_runS (As := [.int a2]) (rest := []) ⟨hx, hb, hml, hown, hts⟩ (c_X4_requireProperty l z0 D t a2 _ er1) (kS hts qw764 qw765 qw1 qw766 ok_X4_requireProperty ⟨Nat.le_of_ble_eq_true rfl, Nat.le_of_ble_eq_true rfl⟩) ⟨PR.blind, fun U hU hW => ⟨rfl, by rw [hU]; exact (hC.at hS hZ).warm hW, by rw [hU]; exact va_P_nil⟩⟩ rfl rfl hl.1 rfl (lv_room (Nat.le_of_ble_eq_true rfl)) dX4_row_26 ⟨Nat.le_of_ble_eq_true rfl, Nat.le_of_ble_eq_true rfl⟩) ?_
        refine lv_iload_n hx hb dX4_row_29 rfl (lv_at hl 2 rfl) ?_
        refine lv_if_ne (tgt := 45) hx hb dX4_row_30 (by decide) (fun hc => ?_) (fun hc => ?_)
        · have h := iteF hc h
          refine lv_iload_n hx hb dX4_row_45 rfl (lv_at hl 2 rfl) ?_
          refine lv_iconst (v := (1)) hx hb dX4_row_46 (by decide) ?_
          obtain ⟨o2, eo2, h⟩ := obind h
          have hJ67_o2 : ∀ (ls : Array Slot) (H : Heap) (locs : List Loc), lv_has ls 3 [(1, .int a1)] → va_P D vwCl (XW x0 s0 s1 e0 E A B G T t μ) H → va_D (OA (XL x0 s0 s1 e0 E A B G T μ) s.heap.size) (XW x0 s0 s1 e0 E A B G T t μ) → va_S (OA (XL x0 s0 s1 e0 E A B G T μ) s.heap.size) s.heap H locs → W p l e (headSpec (ws_ yX4_row cX4_row 3 (some .int)) rx_X4_row).room s m ([.ref (x0), .int a1, .int a2] : List Value).toArray below meth c H locs 0 0 (vx_MQ below (fun _ _ _ _ => False) (XM xE D (XW x0 s0 s1 e0 E A B G T t μ) (XL x0 s0 s1 e0 E A B G T μ) s.heap.size) ([.ref (x0), .int a1, .int a2] : List Value).toArray s 1 6 (OA (XL x0 s0 s1 e0 E A B G T μ) s.heap.size)) (F0 m 67 ls [.long o2]) := by
            intro ls H locs hl hP hD hS
            have hSz : s.heap.size ≤ H.size := hS.1
            refine lv_iload_n hx hb dX4_row_67 rfl (lv_at hl 0 rfl) ?_
            obtain ⟨r3, er3, h⟩ := obind h
            refine call_R (va_runS (As := [.long o2, .int a1]) (rest := []) ⟨hx, hb, hml, hown, hts⟩ (c_X4_rowMask l z0 D t o2 a1 _ er3) (kS hts qw796 qw797 qw1 qw798 ok_X4_rowMask ⟨Nat.le_of_ble_eq_true rfl, Nat.le_of_ble_eq_true rfl⟩) ⟨PR.blind, fun U hU hW => ⟨rfl, by rw [hU]; exact (hC.at hS hZ).warm hW, by rw [hU]; exact va_P_nil⟩⟩ rfl rfl hl.1 rfl (lv_room (Nat.le_of_ble_eq_true rfl)) dX4_row_68 ⟨Nat.le_of_ble_eq_true rfl, Nat.le_of_ble_eq_true rfl⟩) ?_
            exact absurd (Option.some.inj h) (fun z => by cases z)
          have h := eo2
          clear eo2
          refine lv_icmp_ne (tgt := 60) hx hb dX4_row_47 (by decide) (fun hc => ?_) (fun hc => ?_)
          · have h := iteF hc h
            refine lv_aload_n hx hb dX4_row_60 rfl (lv_at hl 0 rfl) ?_
            refine va_get hx hb hts inX4 hown hK hP 0 rfl rfl 4 (by decide) (hts _ qw159) (fun _ h9 => h9) rfl dX4_row_61 ?_
            refine va_get hx hb hts inX1 hown hK hP 13 rfl rfl 4 (by decide) (hts _ qw128) (fun _ h9 => h9) rfl dX4_row_64 ?_
            obtain rfl := Option.some.inj h
            exact hJ67_o2 ls H locs (lv_sub hl [1] rfl) hP hD hS
          · have h := iteT hc h
            refine lv_aload_n hx hb dX4_row_50 rfl (lv_at hl 0 rfl) ?_
            refine va_get hx hb hts inX4 hown hK hP 0 rfl rfl 4 (by decide) (hts _ qw159) (fun _ h9 => h9) rfl dX4_row_51 ?_
            refine va_get hx hb hts inX1 hown hK hP 13 rfl rfl 3 (by decide) (hts _ qw126) (fun _ h9 => h9) rfl dX4_row_54 ?_
            refine lv_goto (tgt := 67) hx hb dX4_row_57 (by decide) ?_
            obtain rfl := Option.some.inj h
            exact hJ67_o2 ls H locs (lv_sub hl [1] rfl) hP hD hS
        · have h := iteT hc h
          refine lv_aload_n hx hb dX4_row_33 rfl (lv_at hl 0 rfl) ?_
          refine va_get hx hb hts inX4 hown hK hP 0 rfl rfl 4 (by decide) (hts _ qw159) (fun _ h9 => h9) rfl dX4_row_34 ?_
          obtain ⟨r4, er4, h⟩ := obind h
          refine call_R (va_runV (As := []) (rest := []) ⟨hx, hb, hml, hown, hts⟩ (c_X1_freeCells l z0 D t G ((x_wide μ), (x_high μ), (x_pond μ), (x_walls μ), (x_paved μ), (x_tc μ), (x_flips μ), (x_refused μ), (x_names μ)) _ er4) (kV hts qw236 qw237 qw238 qw8 qw239 ok_X1_freeCells ⟨Nat.le_of_ble_eq_true rfl, Nat.le_of_ble_eq_true rfl⟩) ⟨PR.blind, va_recv hK (sub_X_G (μ := μ) hP) (ci := 2) (q0 := 0) rfl rfl, fun U hU hW => ⟨rfl, by rw [hU]; exact (hC.at hS hZ).warm hW, by rw [hU]; exact (sub_X_G (μ := μ) hP)⟩⟩ rfl rfl hl.1 rfl (lv_room (Nat.le_of_ble_eq_true rfl)) dX4_row_37 ⟨Nat.le_of_ble_eq_true rfl, Nat.le_of_ble_eq_true rfl⟩) ?_
          refine lv_iload_n hx hb dX4_row_40 rfl (lv_at hl 1 rfl) ?_
          obtain ⟨r5, er5, h⟩ := obind h
          refine call_R (va_runS (As := [.long r4, .int a1]) (rest := []) ⟨hx, hb, hml, hown, hts⟩ (c_X4_rowMask l z0 D t r4 a1 _ er5) (kS hts qw796 qw797 qw1 qw798 ok_X4_rowMask ⟨Nat.le_of_ble_eq_true rfl, Nat.le_of_ble_eq_true rfl⟩) ⟨PR.blind, fun U hU hW => ⟨rfl, by rw [hU]; exact (hC.at hS hZ).warm hW, by rw [hU]; exact va_P_nil⟩⟩ rfl rfl hl.1 rfl (lv_room (Nat.le_of_ble_eq_true rfl)) dX4_row_41 ⟨Nat.le_of_ble_eq_true rfl, Nat.le_of_ble_eq_true rfl⟩) ?_
          exact absurd (Option.some.inj h) (fun z => by cases z)
      · replace h := sumR h
        obtain rfl := Sum.inr.inj (Option.some.inj h)
        refine call_X (vx_runS (As := [.int a2]) (rest := []) ⟨hx, hb, hml, hown, hts⟩ (x_X4_requireProperty l hl9 z0 D t a2 _ H.size er1) (kS hts qw764 qw765 qw1 qw766 ok_X4_requireProperty ⟨Nat.le_of_ble_eq_true rfl, Nat.le_of_ble_eq_true rfl⟩) ⟨PM.blind, fun U hU hW => ⟨rfl, by rw [hU]; exact (hC.at hS hZ).warm hW, by rw [hU], by rw [hU]; exact va_P_nil, ⟨(va_D_nil (A := OA [] s.heap.size)).1, fun _ _ h9 => Or.inl (in_map (L := []) rfl h9)⟩, fun q hq => hZ q (OA.nil hSz q hq)⟩⟩ rfl rfl hl.1 rfl (lv_room (Nat.le_of_ble_eq_true rfl)) dX4_row_26 ⟨Nat.le_of_ble_eq_true rfl, Nat.le_of_ble_eq_true rfl⟩) hS (OA.nil hSz) (fun H locs q9 ce9 hP1 hD1 hS hsz1 hk1 hce hcv hcc => ?_)
        have hP : va_P D vwCl (XW x0 s0 s1 e0 E A B G T t μ) H := va_P.keptN hP hk1
        exact vx_out (fun x9 hx9 => (hT x9 hx9).elim) hlocks hce hcv hcc (fun t9 h8 _ => XM.mk2 hP hD hS h8) hS.2.2 (Nat.le_of_ble_eq_true rfl) (Nat.le_of_ble_eq_true rfl)
    · have h := iteF hc h
      obtain rfl := Sum.inr.inj (Option.some.inj h)
      obtain ⟨sa, hsa⟩ := hC.2.2.2.2.2.1 ("BentGardens", 252, "there is no such row") (by decide +kernel)
      refine vx_throwS hx hb hl9 hown (cls := "java/lang/IndexOutOfBoundsException") (names := ["java/lang/RuntimeException", "java/lang/Exception"]) (by decide) (by decide) (hts _ qw562) (hts _ qw24) hsa (at_words hts hC.2.1 at_IndexOutOfBoundsException) ato_IndexOutOfBoundsException (hC.2.2.2.2.2.2.2.1.narrow hZ) (hC.2.2.2.2.2.2.2.2.1.narrow hZ) hS (hl.1.trans hml.symm) dX4_row_15 dX4_row_18 dX4_row_19 dX4_row_21 dX4_row_24 (fun x9 hx9 => (hT x9 hx9).elim) (Nat.le_of_ble_eq_true rfl) (Nat.le_of_ble_eq_true rfl) (Nat.le_of_ble_eq_true rfl) (Nat.le_of_ble_eq_true rfl) hlocks (fun t9 _ h8 h9 => XM.mk hP hD hS h8 h9) hS.2.2 (Nat.le_of_ble_eq_true rfl) (Nat.le_of_ble_eq_true rfl)
