abbrev rm_X2_paveFirstWay : Room := { frames := 4, cells := 0, slots := 0, locals := 108 }
theorem ok_X2_paveFirstWay : okY yX2_paveFirstWay 1 := ⟨by decide +kernel, by decide +kernel, by decide +kernel⟩
set_option maxHeartbeats 4000000 in
set_option maxRecDepth 100000 in
theorem c_X2_paveFirstWay (l : Launch) (z0 : Nat) (D : va_G) (t : Nat → ClassId) (A : Nat → Nat) (B : Nat → Nat) (G : Nat → Nat) (μ : VGS) (res : (Nat → Nat → Int32) × (Nat → Int32) × (Int64) × (Int32) × (Nat → Int32)) (sz : Nat) (h : f_X2_paveFirstWay μ = some res) : Met l yX2_paveFirstWay (ws_ yX2_paveFirstWay cX2_paveFirstWay 8 none) rm_X2_paveFirstWay (PM z0 D t [.ref (A 0), .ref (G 0)] (VGW A B G t μ) (VGL A B G μ) sz) (QM none D (VGW A B G t (res.1, res.2.1, vg_u1 μ, vg_u2 μ, vg_hsz μ, vg_hwin μ, vg_hway μ, vg_nsz μ, vg_nwin μ, vg_nway μ, vg_wide μ, vg_high μ, vg_pond μ, vg_walls μ, res.2.2.1, res.2.2.2.1, vg_flips μ, vg_refused μ, res.2.2.2.2)) (VGL A B G μ) sz) 0 0 (OA (VGL A B G μ) sz) := by
  refine Met.ofW (cc := cX2_paveFirstWay) (maxL := 8) (ret := none) (by decide) rfl ?_
  intro p e s m args below meth c s₁ Bo hml hv
  obtain ⟨rfl, hC, hsz, hP, hD, hZ⟩ := hv
  have hx := Bo.exec
  have hb := Bo.bytes
  have hr := Bo.returns
  have hts : ∀ w ∈ LA, w.before _ s = true := fun w hw => atoms_spec (ws := ws_ yX2_paveFirstWay cX2_paveFirstWay 8 none) Bo.pre w (List.mem_cons_of_mem _ hw)
  have hown : s.vm.findClass RX2 = some m.cls := findClass_of_methodNamed Bo.named
  have hlocks := Bo.notSynchronized
  have hK := hC.1
  subst hsz
  have hl := lv_entry ([.ref (A 0), .ref (G 0)]) (n := 8) (Nat.le_of_ble_eq_true rfl)
  rw [lg_entry_eq]
  generalize (lg_sl ([.ref (A 0), .ref (G 0)]) ++ List.replicate (8 - (lg_sl ([.ref (A 0), .ref (G 0)])).length) Slot.unset).toArray = ls at hl ⊢
  have hl : lv_has ls 8 [(0, .ref (A 0)), (1, .ref (G 0))] := hl
  suffices K9 : ∀ (H : Heap) (locs : List Loc), va_P D vwCl (VGW A B G t μ) H → va_S (OA (VGL A B G μ) s.heap.size) s.heap H locs → W p l e (headSpec (ws_ yX2_paveFirstWay cX2_paveFirstWay 8 none) rm_X2_paveFirstWay).room s m ([.ref (A 0), .ref (G 0)] : List Value).toArray below meth c H locs 0 0 (MQ below (QM none D (VGW A B G t (res.1, res.2.1, vg_u1 μ, vg_u2 μ, vg_hsz μ, vg_hwin μ, vg_hway μ, vg_nsz μ, vg_nwin μ, vg_nway μ, vg_wide μ, vg_high μ, vg_pond μ, vg_walls μ, res.2.2.1, res.2.2.2.1, vg_flips μ, vg_refused μ, res.2.2.2.2)) (VGL A B G μ) s.heap.size) ([.ref (A 0), .ref (G 0)] : List Value).toArray s 0 0 (OA (VGL A B G μ) s.heap.size)) (F0 m 0 ls []) from K9 s.heap [] hP va_S.rf
  intro H locs hP hS
  have hSz : s.heap.size ≤ H.size := hS.1
  unfold f_X2_paveFirstWay at h
  refine lv_aload_n hx hb dX2_paveFirstWay_0 rfl (lv_at hl 1 rfl) ?_
  obtain ⟨r1, er1, h⟩ := obind h
  refine call_R (va_runV (As := []) (rest := []) ⟨hx, hb, hml, hown, hts⟩ (c_X1_freeCells l z0 D t G ((vg_wide μ), (vg_high μ), (vg_pond μ), (vg_walls μ), (vg_paved μ), (vg_tc μ), (vg_flips μ), (vg_refused μ), (vg_names μ)) _ er1) (kV hts qw833 qw243 qw244 qw8 qw245 ok_X1_freeCells ⟨Nat.le_of_ble_eq_true rfl, Nat.le_of_ble_eq_true rfl⟩) ⟨PR.blind, va_recv hK (sub_VG_G (μ := μ) hP) (ci := 2) (q0 := 0) rfl rfl, fun U hU hW => ⟨rfl, by rw [hU]; exact (hC.at hS hZ).warm hW, by rw [hU]; exact (sub_VG_G (μ := μ) hP)⟩⟩ rfl rfl hl.1 rfl (lv_room (Nat.le_of_ble_eq_true rfl)) dX2_paveFirstWay_1 ⟨Nat.le_of_ble_eq_true rfl, Nat.le_of_ble_eq_true rfl⟩) ?_
  refine lv_lstore_n (lv' := [(2, .long r1), (0, .ref (A 0)), (1, .ref (G 0))]) hx hb dX2_paveFirstWay_4 rfl hl (by decide) rfl (fun ls hl => ?_)
  refine lv_aload_n hx hb dX2_paveFirstWay_5 rfl (lv_at hl 1 rfl) ?_
  refine lv_lload_n hx hb dX2_paveFirstWay_6 rfl (lv_at hl 0 rfl) ?_
  obtain ⟨r2, er2, h⟩ := obind h
  refine call_M (va_runV (As := [.long r1]) (rest := []) ⟨hx, hb, hml, hown, hts⟩ (c_X2_countRest l z0 D t A B ((vg_rest μ), (vg_takes μ), (vg_u1 μ), (vg_u2 μ), (vg_hsz μ), (vg_hwin μ), (vg_hway μ), (vg_nsz μ), (vg_nwin μ), (vg_nway μ)) r1 _ H.size er2) (kV hts qw379 qw381 qs9 qw6 qw382 ok_X2_countRest ⟨Nat.le_of_ble_eq_true rfl, Nat.le_of_ble_eq_true rfl⟩) ⟨PM.blind, va_recv hK (sub_VG_V (μ := μ) hP) (ci := 3) (q0 := 0) rfl rfl, fun U hU hW => ⟨rfl, by rw [hU]; exact (hC.at hS hZ).warm hW, by rw [hU], by rw [hU]; exact (sub_VG_V (μ := μ) hP), ⟨(subD_VG_V (μ := μ) hD).1, fun _ _ h9 => Or.inl (in_map (L := (VL A B ((vg_rest μ), (vg_takes μ), (vg_u1 μ), (vg_u2 μ), (vg_hsz μ), (vg_hwin μ), (vg_hway μ), (vg_nsz μ), (vg_nwin μ), (vg_nway μ)))) rfl h9)⟩, fun q hq => hZ q (OA.ofD (subD_VG_V (μ := μ) hD) rfl hSz q hq)⟩⟩ rfl rfl hl.1 rfl (lv_room (Nat.le_of_ble_eq_true rfl)) dX2_paveFirstWay_7 ⟨Nat.le_of_ble_eq_true rfl, Nat.le_of_ble_eq_true rfl⟩) hS (OA.ofD (subD_VG_V (μ := μ) hD) rfl hSz) (fun H locs hP1 hD1 hS _ hk1 => ?_)
  obtain ⟨hP, hD⟩ := back_VG_V (μ := μ) hP hD hk1 (OA.ofD (subD_VG_V (μ := μ) hD) rfl hSz) hP1 hD1
  have hP : va_P D vwCl (VGW A B G t (vg_takes' (vg_rest' μ r2.1) r2.2)) H := hP
  have hD : va_D (OA (VGL A B G μ) s.heap.size) (VGW A B G t (vg_takes' (vg_rest' μ r2.1) r2.2)) := hD
  have hSz : s.heap.size ≤ H.size := hS.1
  refine lv_lload_n hx hb dX2_paveFirstWay_10 rfl (lv_at hl 0 rfl) ?_
  obtain ⟨r3, er3, h⟩ := obind h
  refine call_R (va_runS (As := [.long r1]) (rest := []) ⟨hx, hb, hml, hown, hts⟩ (c_X2_endOf l z0 D t r1 _ er3) (kS hts qw281 qw282 qw6 qw283 ok_X2_endOf ⟨Nat.le_of_ble_eq_true rfl, Nat.le_of_ble_eq_true rfl⟩) ⟨PR.blind, fun U hU hW => ⟨rfl, by rw [hU]; exact (hC.at hS hZ).warm hW, by rw [hU]; exact va_P_nil⟩⟩ rfl rfl hl.1 rfl (lv_room (Nat.le_of_ble_eq_true rfl)) dX2_paveFirstWay_11 ⟨Nat.le_of_ble_eq_true rfl, Nat.le_of_ble_eq_true rfl⟩) ?_
  refine lv_istore (lv' := [(4, .int r3), (2, .long r1), (0, .ref (A 0)), (1, .ref (G 0))]) hx hb dX2_paveFirstWay_14 hl (by decide) rfl (fun ls hl => ?_)
  refine lv_iconst (v := (0)) hx hb dX2_paveFirstWay_16 (by decide) ?_
  refine lv_istore (lv' := [(5, .int (0 : Int32)), (4, .int r3), (2, .long r1), (0, .ref (A 0)), (1, .ref (G 0))]) hx hb dX2_paveFirstWay_17 hl (by decide) rfl (fun ls hl => ?_)
  refine lv_iconst (v := (0)) hx hb dX2_paveFirstWay_19 (by decide) ?_
  refine lv_istore (lv' := [(6, .int (0 : Int32)), (5, .int (0 : Int32)), (4, .int r3), (2, .long r1), (0, .ref (A 0)), (1, .ref (G 0))]) hx hb dX2_paveFirstWay_20 hl (by decide) rfl (fun ls hl => ?_)
  obtain ⟨o28, eo28, h⟩ := obind h
  have hL22 : ∀ (n : Nat) (y5_22 : Int32) (y6_22 : Int32) (takes_22 : Nat → Int32) (paved_22 : Int64) (tc_22 : Int32) (names_22 : Nat → Int32) (o28 : (Nat → Int32) × (Int64) × (Int32) × (Nat → Int32)), f_X2_paveFirstWay_L22 μ r1 r2 r3 n y5_22 y6_22 takes_22 paved_22 tc_22 names_22 = some o28 → (∀ (ls : Array Slot) (H : Heap) (locs : List Loc), lv_has ls 8 [] → va_P D vwCl (VGW A B G t (r2.1, o28.1, vg_u1 μ, vg_u2 μ, vg_hsz μ, vg_hwin μ, vg_hway μ, vg_nsz μ, vg_nwin μ, vg_nway μ, vg_wide μ, vg_high μ, vg_pond μ, vg_walls μ, o28.2.1, o28.2.2.1, vg_flips μ, vg_refused μ, o28.2.2.2)) H → va_D (OA (VGL A B G μ) s.heap.size) (VGW A B G t (r2.1, o28.1, vg_u1 μ, vg_u2 μ, vg_hsz μ, vg_hwin μ, vg_hway μ, vg_nsz μ, vg_nwin μ, vg_nway μ, vg_wide μ, vg_high μ, vg_pond μ, vg_walls μ, o28.2.1, o28.2.2.1, vg_flips μ, vg_refused μ, o28.2.2.2)) → va_S (OA (VGL A B G μ) s.heap.size) s.heap H locs → W p l e (headSpec (ws_ yX2_paveFirstWay cX2_paveFirstWay 8 none) rm_X2_paveFirstWay).room s m ([.ref (A 0), .ref (G 0)] : List Value).toArray below meth c H locs 0 0 (MQ below (QM none D (VGW A B G t (res.1, res.2.1, vg_u1 μ, vg_u2 μ, vg_hsz μ, vg_hwin μ, vg_hway μ, vg_nsz μ, vg_nwin μ, vg_nway μ, vg_wide μ, vg_high μ, vg_pond μ, vg_walls μ, res.2.2.1, res.2.2.2.1, vg_flips μ, vg_refused μ, res.2.2.2.2)) (VGL A B G μ) s.heap.size) ([.ref (A 0), .ref (G 0)] : List Value).toArray s 0 0 (OA (VGL A B G μ) s.heap.size)) (F0 m 95 ls [])) → ∀ (ls : Array Slot) (H : Heap) (locs : List Loc), lv_has ls 8 [(0, .ref (A 0)), (1, .ref (G 0)), (2, .long r1), (4, .int r3), (5, .int y5_22), (6, .int y6_22)] → va_P D vwCl (VGW A B G t (r2.1, takes_22, vg_u1 μ, vg_u2 μ, vg_hsz μ, vg_hwin μ, vg_hway μ, vg_nsz μ, vg_nwin μ, vg_nway μ, vg_wide μ, vg_high μ, vg_pond μ, vg_walls μ, paved_22, tc_22, vg_flips μ, vg_refused μ, names_22)) H → va_D (OA (VGL A B G μ) s.heap.size) (VGW A B G t (r2.1, takes_22, vg_u1 μ, vg_u2 μ, vg_hsz μ, vg_hwin μ, vg_hway μ, vg_nsz μ, vg_nwin μ, vg_nway μ, vg_wide μ, vg_high μ, vg_pond μ, vg_walls μ, paved_22, tc_22, vg_flips μ, vg_refused μ, names_22)) → va_S (OA (VGL A B G μ) s.heap.size) s.heap H locs → W p l e (headSpec (ws_ yX2_paveFirstWay cX2_paveFirstWay 8 none) rm_X2_paveFirstWay).room s m ([.ref (A 0), .ref (G 0)] : List Value).toArray below meth c H locs 0 0 (MQ below (QM none D (VGW A B G t (res.1, res.2.1, vg_u1 μ, vg_u2 μ, vg_hsz μ, vg_hwin μ, vg_hway μ, vg_nsz μ, vg_nwin μ, vg_nway μ, vg_wide μ, vg_high μ, vg_pond μ, vg_walls μ, res.2.2.1, res.2.2.2.1, vg_flips μ, vg_refused μ, res.2.2.2.2)) (VGL A B G μ) s.heap.size) ([.ref (A 0), .ref (G 0)] : List Value).toArray s 0 0 (OA (VGL A B G μ) s.heap.size)) (F0 m 22 ls []) := by
    intro n
    induction n with
    | zero => intro y5_22 y6_22 takes_22 paved_22 tc_22 names_22 o28 h; exact absurd h (fun z => by cases z)
    | succ n ih =>
      intro y5_22 y6_22 takes_22 paved_22 tc_22 names_22 o28 h hK22 ls H locs hl hP hD hS
      replace h : f_X2_paveFirstWay_L22_b μ r1 r2 r3 (f_X2_paveFirstWay_L22 μ r1 r2 r3 n) y5_22 y6_22 takes_22 paved_22 tc_22 names_22 = some o28 := h
      unfold f_X2_paveFirstWay_L22_b at h
      have hSz : s.heap.size ≤ H.size := hS.1
      refine lv_iload hx hb dX2_paveFirstWay_22 (lv_at hl 5 rfl) ?_
      refine lv_iload hx hb dX2_paveFirstWay_24 (lv_at hl 3 rfl) ?_
      refine lv_icmp_ge (tgt := 95) hx hb dX2_paveFirstWay_26 (by decide) (fun hc => ?_) (fun hc => ?_)
      · have h := iteT hc h
        obtain rfl := Option.some.inj h
        exact hK22 ls H locs (lv_sub hl [] rfl) hP hD hS
      · have h := iteF hc h
        refine lv_aload_n hx hb dX2_paveFirstWay_29 rfl (lv_at hl 0 rfl) ?_
        refine lv_lload_n hx hb dX2_paveFirstWay_30 rfl (lv_at hl 2 rfl) ?_
        refine lv_iload hx hb dX2_paveFirstWay_31 (lv_at hl 5 rfl) ?_
        obtain ⟨r29, er29, h⟩ := obind h
        refine call_M (va_runV (As := [.long r1, .int y6_22]) (rest := []) ⟨hx, hb, hml, hown, hts⟩ (c_X2_findTakes l z0 D t A (takes_22, (vg_u1 μ), (vg_u2 μ)) r1 y6_22 _ H.size er29) (kV hts qw304 qw306 qs4 qw6 qw307 ok_X2_findTakes ⟨Nat.le_of_ble_eq_true rfl, Nat.le_of_ble_eq_true rfl⟩) ⟨PM.blind, va_recv hK (sub_VG_P (μ := (r2.1, takes_22, vg_u1 μ, vg_u2 μ, vg_hsz μ, vg_hwin μ, vg_hway μ, vg_nsz μ, vg_nwin μ, vg_nway μ, vg_wide μ, vg_high μ, vg_pond μ, vg_walls μ, paved_22, tc_22, vg_flips μ, vg_refused μ, names_22)) hP) (ci := 3) (q0 := 0) rfl rfl, fun U hU hW => ⟨rfl, by rw [hU]; exact (hC.at hS hZ).warm hW, by rw [hU], by rw [hU]; exact (sub_VG_P (μ := (r2.1, takes_22, vg_u1 μ, vg_u2 μ, vg_hsz μ, vg_hwin μ, vg_hway μ, vg_nsz μ, vg_nwin μ, vg_nway μ, vg_wide μ, vg_high μ, vg_pond μ, vg_walls μ, paved_22, tc_22, vg_flips μ, vg_refused μ, names_22)) hP), ⟨(subD_VG_P (μ := (r2.1, takes_22, vg_u1 μ, vg_u2 μ, vg_hsz μ, vg_hwin μ, vg_hway μ, vg_nsz μ, vg_nwin μ, vg_nway μ, vg_wide μ, vg_high μ, vg_pond μ, vg_walls μ, paved_22, tc_22, vg_flips μ, vg_refused μ, names_22)) hD).1, fun _ _ h9 => Or.inl (in_map (L := (PL A)) rfl h9)⟩, fun q hq => hZ q (OA.ofD (subD_VG_P (μ := (r2.1, takes_22, vg_u1 μ, vg_u2 μ, vg_hsz μ, vg_hwin μ, vg_hway μ, vg_nsz μ, vg_nwin μ, vg_nway μ, vg_wide μ, vg_high μ, vg_pond μ, vg_walls μ, paved_22, tc_22, vg_flips μ, vg_refused μ, names_22)) hD) rfl hSz q hq)⟩⟩ rfl rfl hl.1 rfl (lv_room (Nat.le_of_ble_eq_true rfl)) dX2_paveFirstWay_33 ⟨Nat.le_of_ble_eq_true rfl, Nat.le_of_ble_eq_true rfl⟩) hS (OA.ofD (subD_VG_P (μ := (r2.1, takes_22, vg_u1 μ, vg_u2 μ, vg_hsz μ, vg_hwin μ, vg_hway μ, vg_nsz μ, vg_nwin μ, vg_nway μ, vg_wide μ, vg_high μ, vg_pond μ, vg_walls μ, paved_22, tc_22, vg_flips μ, vg_refused μ, names_22)) hD) rfl hSz) (fun H locs hP1 hD1 hS _ hk1 => ?_)
        obtain ⟨hP, hD⟩ := back_VG_P (μ := (r2.1, takes_22, vg_u1 μ, vg_u2 μ, vg_hsz μ, vg_hwin μ, vg_hway μ, vg_nsz μ, vg_nwin μ, vg_nway μ, vg_wide μ, vg_high μ, vg_pond μ, vg_walls μ, paved_22, tc_22, vg_flips μ, vg_refused μ, names_22)) hP hD hk1 hP1
        have hP : va_P D vwCl (VGW A B G t (r2.1, r29, vg_u1 μ, vg_u2 μ, vg_hsz μ, vg_hwin μ, vg_hway μ, vg_nsz μ, vg_nwin μ, vg_nway μ, vg_wide μ, vg_high μ, vg_pond μ, vg_walls μ, paved_22, tc_22, vg_flips μ, vg_refused μ, names_22)) H := hP
        have hD : va_D (OA (VGL A B G μ) s.heap.size) (VGW A B G t (r2.1, r29, vg_u1 μ, vg_u2 μ, vg_hsz μ, vg_hwin μ, vg_hway μ, vg_nsz μ, vg_nwin μ, vg_nway μ, vg_wide μ, vg_high μ, vg_pond μ, vg_walls μ, paved_22, tc_22, vg_flips μ, vg_refused μ, names_22)) := hD
        have hSz : s.heap.size ≤ H.size := hS.1
        refine lv_aload_n hx hb dX2_paveFirstWay_36 rfl (lv_at hl 0 rfl) ?_
        refine lv_iload hx hb dX2_paveFirstWay_37 (lv_at hl 5 rfl) ?_
        refine lv_iload hx hb dX2_paveFirstWay_39 (lv_at hl 4 rfl) ?_
        obtain ⟨r30, er30, h⟩ := obind h
        refine call_R (va_runV (As := [.int y6_22, .int y5_22]) (rest := []) ⟨hx, hb, hml, hown, hts⟩ (c_X2_leastTurn l z0 D t A B (r2.1, r29, (vg_u1 μ), (vg_u2 μ), (vg_hsz μ), (vg_hwin μ), (vg_hway μ), (vg_nsz μ), (vg_nwin μ), (vg_nway μ)) y6_22 y5_22 _ er30) (kV hts qw834 qw836 qs28 qw6 qw837 ok_X2_leastTurn ⟨Nat.le_of_ble_eq_true rfl, Nat.le_of_ble_eq_true rfl⟩) ⟨PR.blind, va_recv hK (sub_VG_V (μ := (r2.1, r29, vg_u1 μ, vg_u2 μ, vg_hsz μ, vg_hwin μ, vg_hway μ, vg_nsz μ, vg_nwin μ, vg_nway μ, vg_wide μ, vg_high μ, vg_pond μ, vg_walls μ, paved_22, tc_22, vg_flips μ, vg_refused μ, names_22)) hP) (ci := 3) (q0 := 0) rfl rfl, fun U hU hW => ⟨rfl, by rw [hU]; exact (hC.at hS hZ).warm hW, by rw [hU]; exact (sub_VG_V (μ := (r2.1, r29, vg_u1 μ, vg_u2 μ, vg_hsz μ, vg_hwin μ, vg_hway μ, vg_nsz μ, vg_nwin μ, vg_nway μ, vg_wide μ, vg_high μ, vg_pond μ, vg_walls μ, paved_22, tc_22, vg_flips μ, vg_refused μ, names_22)) hP)⟩⟩ rfl rfl hl.1 rfl (lv_room (Nat.le_of_ble_eq_true rfl)) dX2_paveFirstWay_41 ⟨Nat.le_of_ble_eq_true rfl, Nat.le_of_ble_eq_true rfl⟩) ?_
        refine lv_istore (lv' := [(7, .int r30), (0, .ref (A 0)), (1, .ref (G 0)), (2, .long r1), (4, .int r3), (5, .int y5_22), (6, .int y6_22)]) hx hb dX2_paveFirstWay_44 hl (by decide) rfl (fun ls hl => ?_)
        refine lv_iload hx hb dX2_paveFirstWay_46 (lv_at hl 0 rfl) ?_
        refine lv_iconst (v := (-1)) hx hb dX2_paveFirstWay_48 (by decide) ?_
        obtain ⟨o35, eo35, h⟩ := obind h
        have hJ89_o35 : ∀ (ls : Array Slot) (H : Heap) (locs : List Loc), lv_has ls 8 [(0, .ref (A 0)), (1, .ref (G 0)), (2, .long r1), (4, .int r3), (5, .int o35.1), (6, .int y6_22)] → va_P D vwCl (VGW A B G t (r2.1, r29, vg_u1 μ, vg_u2 μ, vg_hsz μ, vg_hwin μ, vg_hway μ, vg_nsz μ, vg_nwin μ, vg_nway μ, vg_wide μ, vg_high μ, vg_pond μ, vg_walls μ, o35.2.1, o35.2.2.1, vg_flips μ, vg_refused μ, o35.2.2.2)) H → va_D (OA (VGL A B G μ) s.heap.size) (VGW A B G t (r2.1, r29, vg_u1 μ, vg_u2 μ, vg_hsz μ, vg_hwin μ, vg_hway μ, vg_nsz μ, vg_nwin μ, vg_nway μ, vg_wide μ, vg_high μ, vg_pond μ, vg_walls μ, o35.2.1, o35.2.2.1, vg_flips μ, vg_refused μ, o35.2.2.2)) → va_S (OA (VGL A B G μ) s.heap.size) s.heap H locs → W p l e (headSpec (ws_ yX2_paveFirstWay cX2_paveFirstWay 8 none) rm_X2_paveFirstWay).room s m ([.ref (A 0), .ref (G 0)] : List Value).toArray below meth c H locs 0 0 (MQ below (QM none D (VGW A B G t (res.1, res.2.1, vg_u1 μ, vg_u2 μ, vg_hsz μ, vg_hwin μ, vg_hway μ, vg_nsz μ, vg_nwin μ, vg_nway μ, vg_wide μ, vg_high μ, vg_pond μ, vg_walls μ, res.2.2.1, res.2.2.2.1, vg_flips μ, vg_refused μ, res.2.2.2.2)) (VGL A B G μ) s.heap.size) ([.ref (A 0), .ref (G 0)] : List Value).toArray s 0 0 (OA (VGL A B G μ) s.heap.size)) (F0 m 89 ls []) := by
          intro ls H locs hl hP hD hS
          have hSz : s.heap.size ≤ H.size := hS.1
          obtain ⟨x40, ex40, h⟩ := jlet_some h
          refine lv_iinc (v := x40) (lv' := [(6, .int x40), (0, .ref (A 0)), (1, .ref (G 0)), (2, .long r1), (4, .int r3), (5, .int o35.1)]) hx hb dX2_paveFirstWay_89 hl (k := 5) rfl (by rw [ex40]; rfl) (by decide) rfl (fun ls hl => ?_)
          refine lv_goto (tgt := 22) hx hb dX2_paveFirstWay_92 (by decide) ?_
          exact ih _ _ _ _ _ _ _ h hK22 ls H locs (lv_sub hl [1, 2, 3, 4, 5, 0] rfl) hP hD hS
        have h := eo35
        clear eo35
        refine lv_icmp_ne (tgt := 61) hx hb dX2_paveFirstWay_49 (by decide) (fun hc => ?_) (fun hc => ?_)
        · have h := iteF hc h
          refine lv_aload_n hx hb dX2_paveFirstWay_61 rfl (lv_at hl 2 rfl) ?_
          refine lv_iload hx hb dX2_paveFirstWay_62 (lv_at hl 6 rfl) ?_
          refine lv_iload hx hb dX2_paveFirstWay_64 (lv_at hl 0 rfl) ?_
          obtain ⟨r36, er36, h⟩ := obind h
          refine call_R (va_runS (As := [.int y6_22, .int r30]) (rest := [.ref (G 0)]) ⟨hx, hb, hml, hown, hts⟩ (c_X2_blockColumn l z0 D t y6_22 r30 _ er36) (kS hts qw308 qw309 qw6 qw310 ok_X2_blockColumn ⟨Nat.le_of_ble_eq_true rfl, Nat.le_of_ble_eq_true rfl⟩) ⟨PR.blind, fun U hU hW => ⟨rfl, by rw [hU]; exact (hC.at hS hZ).warm hW, by rw [hU]; exact va_P_nil⟩⟩ rfl rfl hl.1 rfl (lv_room (Nat.le_of_ble_eq_true rfl)) dX2_paveFirstWay_66 ⟨Nat.le_of_ble_eq_true rfl, Nat.le_of_ble_eq_true rfl⟩) ?_
          refine lv_iload hx hb dX2_paveFirstWay_69 (lv_at hl 6 rfl) ?_
          refine lv_bipush (v := (8)) hx hb dX2_paveFirstWay_71 (by decide) ?_
          refine lv_idiv hx hb dX2_paveFirstWay_73 (by decide) ?_
          refine lv_iload hx hb dX2_paveFirstWay_74 (lv_at hl 0 rfl) ?_
          obtain ⟨r37, er37, h⟩ := obind h
          refine call_M (va_runV (As := [.int r36, .int (y6_22 / (8 : Int32)), .int r30]) (rest := []) ⟨hx, hb, hml, hown, hts⟩ (c_X1_putTriple l z0 D t G ((vg_wide μ), (vg_high μ), (vg_pond μ), (vg_walls μ), paved_22, tc_22, (vg_flips μ), (vg_refused μ), names_22) r36 (y6_22 / (8 : Int32)) r30 _ H.size er37) (kV hts qw838 qw787 qw788 qw8 qw789 ok_X1_putTriple ⟨Nat.le_of_ble_eq_true rfl, Nat.le_of_ble_eq_true rfl⟩) ⟨PM.blind, va_recv hK (sub_VG_G (μ := (r2.1, r29, vg_u1 μ, vg_u2 μ, vg_hsz μ, vg_hwin μ, vg_hway μ, vg_nsz μ, vg_nwin μ, vg_nway μ, vg_wide μ, vg_high μ, vg_pond μ, vg_walls μ, paved_22, tc_22, vg_flips μ, vg_refused μ, names_22)) hP) (ci := 2) (q0 := 0) rfl rfl, fun U hU hW => ⟨rfl, by rw [hU]; exact (hC.at hS hZ).warm hW, by rw [hU], by rw [hU]; exact (sub_VG_G (μ := (r2.1, r29, vg_u1 μ, vg_u2 μ, vg_hsz μ, vg_hwin μ, vg_hway μ, vg_nsz μ, vg_nwin μ, vg_nway μ, vg_wide μ, vg_high μ, vg_pond μ, vg_walls μ, paved_22, tc_22, vg_flips μ, vg_refused μ, names_22)) hP), ⟨(subD_VG_G (μ := (r2.1, r29, vg_u1 μ, vg_u2 μ, vg_hsz μ, vg_hwin μ, vg_hway μ, vg_nsz μ, vg_nwin μ, vg_nway μ, vg_wide μ, vg_high μ, vg_pond μ, vg_walls μ, paved_22, tc_22, vg_flips μ, vg_refused μ, names_22)) hD).1, fun _ _ h9 => Or.inl (in_map (L := (GL G)) rfl h9)⟩, fun q hq => hZ q (OA.ofD (subD_VG_G (μ := (r2.1, r29, vg_u1 μ, vg_u2 μ, vg_hsz μ, vg_hwin μ, vg_hway μ, vg_nsz μ, vg_nwin μ, vg_nway μ, vg_wide μ, vg_high μ, vg_pond μ, vg_walls μ, paved_22, tc_22, vg_flips μ, vg_refused μ, names_22)) hD) rfl hSz q hq)⟩⟩ rfl rfl hl.1 rfl (lv_room (Nat.le_of_ble_eq_true rfl)) dX2_paveFirstWay_76 ⟨Nat.le_of_ble_eq_true rfl, Nat.le_of_ble_eq_true rfl⟩) hS (OA.ofD (subD_VG_G (μ := (r2.1, r29, vg_u1 μ, vg_u2 μ, vg_hsz μ, vg_hwin μ, vg_hway μ, vg_nsz μ, vg_nwin μ, vg_nway μ, vg_wide μ, vg_high μ, vg_pond μ, vg_walls μ, paved_22, tc_22, vg_flips μ, vg_refused μ, names_22)) hD) rfl hSz) (fun H locs hP1 hD1 hS _ hk1 => ?_)
          obtain ⟨hP, hD⟩ := back_VG_G (μ := (r2.1, r29, vg_u1 μ, vg_u2 μ, vg_hsz μ, vg_hwin μ, vg_hway μ, vg_nsz μ, vg_nwin μ, vg_nway μ, vg_wide μ, vg_high μ, vg_pond μ, vg_walls μ, paved_22, tc_22, vg_flips μ, vg_refused μ, names_22)) hP hD hk1 hP1
          have hP : va_P D vwCl (VGW A B G t (r2.1, r29, vg_u1 μ, vg_u2 μ, vg_hsz μ, vg_hwin μ, vg_hway μ, vg_nsz μ, vg_nwin μ, vg_nway μ, vg_wide μ, vg_high μ, vg_pond μ, vg_walls μ, r37.1, r37.2.1, vg_flips μ, vg_refused μ, r37.2.2)) H := hP
          have hD : va_D (OA (VGL A B G μ) s.heap.size) (VGW A B G t (r2.1, r29, vg_u1 μ, vg_u2 μ, vg_hsz μ, vg_hwin μ, vg_hway μ, vg_nsz μ, vg_nwin μ, vg_nway μ, vg_wide μ, vg_high μ, vg_pond μ, vg_walls μ, r37.1, r37.2.1, vg_flips μ, vg_refused μ, r37.2.2)) := hD
          have hSz : s.heap.size ≤ H.size := hS.1
          refine lv_aload_n hx hb dX2_paveFirstWay_79 rfl (lv_at hl 1 rfl) ?_
          refine lv_iload hx hb dX2_paveFirstWay_80 (lv_at hl 0 rfl) ?_
          refine lv_iload hx hb dX2_paveFirstWay_82 (lv_at hl 5 rfl) ?_
          obtain ⟨r38, er38, h⟩ := obind h
          refine call_R (va_runV (As := [.int r30, .int y5_22]) (rest := []) ⟨hx, hb, hml, hown, hts⟩ (c_X2_windowAfter l z0 D t A (r29, (vg_u1 μ), (vg_u2 μ)) r30 y5_22 _ er38) (kV hts qw326 qw328 qs7 qw6 qw329 ok_X2_windowAfter ⟨Nat.le_of_ble_eq_true rfl, Nat.le_of_ble_eq_true rfl⟩) ⟨PR.blind, va_recv hK (sub_VG_P (μ := (r2.1, r29, vg_u1 μ, vg_u2 μ, vg_hsz μ, vg_hwin μ, vg_hway μ, vg_nsz μ, vg_nwin μ, vg_nway μ, vg_wide μ, vg_high μ, vg_pond μ, vg_walls μ, r37.1, r37.2.1, vg_flips μ, vg_refused μ, r37.2.2)) hP) (ci := 3) (q0 := 0) rfl rfl, fun U hU hW => ⟨rfl, by rw [hU]; exact (hC.at hS hZ).warm hW, by rw [hU]; exact (sub_VG_P (μ := (r2.1, r29, vg_u1 μ, vg_u2 μ, vg_hsz μ, vg_hwin μ, vg_hway μ, vg_nsz μ, vg_nwin μ, vg_nway μ, vg_wide μ, vg_high μ, vg_pond μ, vg_walls μ, r37.1, r37.2.1, vg_flips μ, vg_refused μ, r37.2.2)) hP)⟩⟩ rfl rfl hl.1 rfl (lv_room (Nat.le_of_ble_eq_true rfl)) dX2_paveFirstWay_84 ⟨Nat.le_of_ble_eq_true rfl, Nat.le_of_ble_eq_true rfl⟩) ?_
          refine lv_istore (lv' := [(5, .int r38), (7, .int r30), (0, .ref (A 0)), (1, .ref (G 0)), (2, .long r1), (4, .int r3), (6, .int y6_22)]) hx hb dX2_paveFirstWay_87 hl (by decide) rfl (fun ls hl => ?_)
          obtain rfl := Option.some.inj h
          exact hJ89_o35 ls H locs (lv_sub hl [2, 3, 4, 5, 0, 6] rfl) hP hD hS
        · have h := iteT hc h
          refine lv_iload hx hb dX2_paveFirstWay_52 (lv_at hl 5 rfl) ?_
          refine lv_iconst (v := (1)) hx hb dX2_paveFirstWay_54 (by decide) ?_
          refine lv_ishr hx hb dX2_paveFirstWay_55 ?_
          obtain ⟨x39, ex39, h⟩ := jlet_some h
          refine topI ex39 ?_
          refine lv_istore (lv' := [(5, .int x39), (7, .int r30), (0, .ref (A 0)), (1, .ref (G 0)), (2, .long r1), (4, .int r3), (6, .int y6_22)]) hx hb dX2_paveFirstWay_56 hl (by decide) rfl (fun ls hl => ?_)
          refine lv_goto (tgt := 89) hx hb dX2_paveFirstWay_58 (by decide) ?_
          obtain rfl := Option.some.inj h
          exact hJ89_o35 ls H locs (lv_sub hl [2, 3, 4, 5, 0, 6] rfl) hP hD hS
  refine hL22 _ _ _ _ _ _ _ _ eo28 (fun ls H locs hl hP hD hS => ?_) ls H locs (lv_sub hl [4, 5, 3, 2, 1, 0] rfl) hP hD hS
  have hSz : s.heap.size ≤ H.size := hS.1
  obtain rfl := Option.some.inj h
  exact W.vret hx hb hr (fun t ht hW => ⟨rfl, by rw [ht]; exact hP, hD, hS.F ht⟩) hS.2.2 dX2_paveFirstWay_95

abbrev rm_X1_isHalvable : Room := { frames := 0, cells := 0, slots := 0, locals := 0 }
theorem ok_X1_isHalvable : okY yX1_isHalvable 0 := ⟨by decide +kernel, by decide +kernel, by decide +kernel⟩
set_option maxHeartbeats 4000000 in
set_option maxRecDepth 100000 in
theorem c_X1_isHalvable (l : Launch) (z0 : Nat) (D : va_G) (t : Nat → ClassId) (G : Nat → Nat) (μ : GS) (res : Int32) (h : f_X1_isHalvable μ = some res) : Met l yX1_isHalvable (ws_ yX1_isHalvable cX1_isHalvable 2 (some .boolean)) rm_X1_isHalvable (PR z0 D t [.ref (G 0)] (GW G t μ)) (QR (some (.int res))) 0 0 FN := by
  refine Met.ofW (cc := cX1_isHalvable) (maxL := 2) (ret := (some .boolean)) (by decide) rfl ?_
  intro p e s m args below meth c s₁ Bo hml hv
  obtain ⟨rfl, hC, hP⟩ := hv
  have hx := Bo.exec
  have hb := Bo.bytes
  have hr := Bo.returns
  have hts : ∀ w ∈ LA, w.before _ s = true := fun w hw => atoms_spec (ws := ws_ yX1_isHalvable cX1_isHalvable 2 (some .boolean)) Bo.pre w (List.mem_cons_of_mem _ hw)
  have hown : s.vm.findClass RX1 = some m.cls := findClass_of_methodNamed Bo.named
  have hlocks := Bo.notSynchronized
  have hK := hC.1
  have hl := lv_entry ([.ref (G 0)]) (n := 2) (Nat.le_of_ble_eq_true rfl)
  rw [lg_entry_eq]
  generalize (lg_sl ([.ref (G 0)]) ++ List.replicate (2 - (lg_sl ([.ref (G 0)])).length) Slot.unset).toArray = ls at hl ⊢
  have hl : lv_has ls 2 [(0, .ref (G 0))] := hl
  unfold f_X1_isHalvable at h
  refine lv_aload_n hx hb dX1_isHalvable_0 rfl (lv_at hl 0 rfl) ?_
  refine va_get hx hb hts inX1 hown hK hP 0 rfl rfl 0 (by decide) (hts _ qw121) (fun _ h9 => h9) rfl dX1_isHalvable_1 ?_
  refine lv_iconst (v := (2)) hx hb dX1_isHalvable_4 (by decide) ?_
  obtain ⟨o1, eo1, h⟩ := obind h
  have hJ30_o1 : ∀ ls : Array Slot, lv_has ls 2 [(0, .ref (G 0))] → W p l e (headSpec (ws_ yX1_isHalvable cX1_isHalvable 2 (some .boolean)) rm_X1_isHalvable).room s m ([.ref (G 0)] : List Value).toArray below meth c s.heap [] 0 0 (MQ below (QR (some (.int res))) ([.ref (G 0)] : List Value).toArray s 0 0 FN) (F0 m 30 ls [.int o1]) := by
    intro ls hl
    refine lv_istore_n (lv' := [(1, .int o1), (0, .ref (G 0))]) hx hb dX1_isHalvable_30 rfl hl (by decide) rfl (fun ls hl => ?_)
    refine lv_iload_n hx hb dX1_isHalvable_31 rfl (lv_at hl 0 rfl) ?_
    refine lv_if_eq (tgt := 66) hx hb dX1_isHalvable_32 (by decide) (fun hc => ?_) (fun hc => ?_)
    · have h := iteT hc h
      refine lv_iconst (v := (0)) hx hb dX1_isHalvable_66 (by decide) ?_
      obtain rfl := Option.some.inj h
      exact W.zret hx hb hr rfl (fun t ht hW => ⟨rfl, ht⟩) (fun q hq => absurd hq List.not_mem_nil) dX1_isHalvable_67
    · have h := iteF hc h
      refine lv_aload_n hx hb dX1_isHalvable_35 rfl (lv_at hl 1 rfl) ?_
      refine va_get hx hb hts inX1 hown hK hP 0 rfl rfl 0 (by decide) (hts _ qw121) (fun _ h9 => h9) rfl dX1_isHalvable_36 ?_
      refine lv_aload_n hx hb dX1_isHalvable_39 rfl (lv_at hl 1 rfl) ?_
      refine va_get hx hb hts inX1 hown hK hP 0 rfl rfl 1 (by decide) (hts _ qw123) (fun _ h9 => h9) rfl dX1_isHalvable_40 ?_
      refine lv_icmp_ne (tgt := 66) hx hb dX1_isHalvable_43 (by decide) (fun hc => ?_) (fun hc => ?_)
      · have h := iteF hc h
        refine lv_iconst (v := (0)) hx hb dX1_isHalvable_66 (by decide) ?_
        obtain rfl := Option.some.inj h
        exact W.zret hx hb hr rfl (fun t ht hW => ⟨rfl, ht⟩) (fun q hq => absurd hq List.not_mem_nil) dX1_isHalvable_67
      · have h := iteT hc h
        refine lv_aload_n hx hb dX1_isHalvable_46 rfl (lv_at hl 1 rfl) ?_
        refine va_get hx hb hts inX1 hown hK hP 0 rfl rfl 3 (by decide) (hts _ qw127) (fun _ h9 => h9) rfl dX1_isHalvable_47 ?_
        refine lv_lconst (v := (0)) hx hb dX1_isHalvable_50 (by decide) ?_
        refine W.lcmp hx hb dX1_isHalvable_51 ?_
        refine lv_if_ne (tgt := 66) hx hb dX1_isHalvable_52 (by decide) (fun hc => ?_) (fun hc => ?_)
        · have h := iteF hc h
          refine lv_iconst (v := (0)) hx hb dX1_isHalvable_66 (by decide) ?_
          obtain rfl := Option.some.inj h
          exact W.zret hx hb hr rfl (fun t ht hW => ⟨rfl, ht⟩) (fun q hq => absurd hq List.not_mem_nil) dX1_isHalvable_67
        · have h := iteT hc h
          refine lv_aload_n hx hb dX1_isHalvable_55 rfl (lv_at hl 1 rfl) ?_
          refine va_get hx hb hts inX1 hown hK hP 0 rfl rfl 5 (by decide) (hts _ qw131) (fun _ h9 => h9) rfl dX1_isHalvable_56 ?_
          refine lv_if_ne (tgt := 66) hx hb dX1_isHalvable_59 (by decide) (fun hc => ?_) (fun hc => ?_)
          · have h := iteF hc h
            refine lv_iconst (v := (0)) hx hb dX1_isHalvable_66 (by decide) ?_
            obtain rfl := Option.some.inj h
            exact W.zret hx hb hr rfl (fun t ht hW => ⟨rfl, ht⟩) (fun q hq => absurd hq List.not_mem_nil) dX1_isHalvable_67
          · have h := iteT hc h
            refine lv_iconst (v := (1)) hx hb dX1_isHalvable_62 (by decide) ?_
            refine lv_goto (tgt := 67) hx hb dX1_isHalvable_63 (by decide) ?_
            obtain rfl := Option.some.inj h
            exact W.zret hx hb hr rfl (fun t ht hW => ⟨rfl, ht⟩) (fun q hq => absurd hq List.not_mem_nil) dX1_isHalvable_67
  have h := eo1
  clear eo1
  refine lv_icmp_eq (tgt := 25) hx hb dX1_isHalvable_5 (by decide) (fun hc => ?_) (fun hc => ?_)
  · have h := iteT hc h
    refine lv_iconst (v := (1)) hx hb dX1_isHalvable_25 (by decide) ?_
    refine lv_goto (tgt := 30) hx hb dX1_isHalvable_26 (by decide) ?_
    obtain rfl := Option.some.inj h
    exact hJ30_o1 ls (lv_sub hl [0] rfl)
  · have h := iteF hc h
    refine lv_aload_n hx hb dX1_isHalvable_8 rfl (lv_at hl 0 rfl) ?_
    refine va_get hx hb hts inX1 hown hK hP 0 rfl rfl 0 (by decide) (hts _ qw121) (fun _ h9 => h9) rfl dX1_isHalvable_9 ?_
    refine lv_iconst (v := (4)) hx hb dX1_isHalvable_12 (by decide) ?_
    refine lv_icmp_eq (tgt := 25) hx hb dX1_isHalvable_13 (by decide) (fun hc => ?_) (fun hc => ?_)
    · have h := iteT hc h
      refine lv_iconst (v := (1)) hx hb dX1_isHalvable_25 (by decide) ?_
      refine lv_goto (tgt := 30) hx hb dX1_isHalvable_26 (by decide) ?_
      obtain rfl := Option.some.inj h
      exact hJ30_o1 ls (lv_sub hl [0] rfl)
    · have h := iteF hc h
      refine lv_aload_n hx hb dX1_isHalvable_16 rfl (lv_at hl 0 rfl) ?_
      refine va_get hx hb hts inX1 hown hK hP 0 rfl rfl 0 (by decide) (hts _ qw121) (fun _ h9 => h9) rfl dX1_isHalvable_17 ?_
      refine lv_bipush (v := (8)) hx hb dX1_isHalvable_20 (by decide) ?_
      refine lv_icmp_ne (tgt := 29) hx hb dX1_isHalvable_22 (by decide) (fun hc => ?_) (fun hc => ?_)
      · have h := iteF hc h
        refine lv_iconst (v := (0)) hx hb dX1_isHalvable_29 (by decide) ?_
        obtain rfl := Option.some.inj h
        exact hJ30_o1 ls (lv_sub hl [0] rfl)
      · have h := iteT hc h
        refine lv_iconst (v := (1)) hx hb dX1_isHalvable_25 (by decide) ?_
        refine lv_goto (tgt := 30) hx hb dX1_isHalvable_26 (by decide) ?_
        obtain rfl := Option.some.inj h
        exact hJ30_o1 ls (lv_sub hl [0] rfl)

abbrev rm_X1_quarterTurn : Room := { frames := 0, cells := 0, slots := 0, locals := 0 }
theorem ok_X1_quarterTurn : okY yX1_quarterTurn 2 := ⟨by decide +kernel, by decide +kernel, by decide +kernel⟩
set_option maxHeartbeats 4000000 in
set_option maxRecDepth 100000 in
theorem c_X1_quarterTurn (l : Launch) (z0 : Nat) (D : va_G) (t : Nat → ClassId) (a1 : Int32) (a2 : Int32) (res : Int32) (h : f_X1_quarterTurn a1 a2 = some res) : Met l yX1_quarterTurn (ws_ yX1_quarterTurn cX1_quarterTurn 2 (some .int)) rm_X1_quarterTurn (PR z0 D t [.int a1, .int a2] []) (QR (some (.int res))) 0 0 FN := by
  refine Met.ofW (cc := cX1_quarterTurn) (maxL := 2) (ret := (some .int)) (by decide) rfl ?_
  intro p e s m args below meth c s₁ Bo hml hv
  obtain ⟨rfl, hC, hP⟩ := hv
  have hx := Bo.exec
  have hb := Bo.bytes
  have hr := Bo.returns
  have hts : ∀ w ∈ LA, w.before _ s = true := fun w hw => atoms_spec (ws := ws_ yX1_quarterTurn cX1_quarterTurn 2 (some .int)) Bo.pre w (List.mem_cons_of_mem _ hw)
  have hown : s.vm.findClass RX1 = some m.cls := findClass_of_methodNamed Bo.named
  have hlocks := Bo.notSynchronized
  have hK := hC.1
  have hl := lv_entry ([.int a1, .int a2]) (n := 2) (Nat.le_of_ble_eq_true rfl)
  rw [lg_entry_eq]
  generalize (lg_sl ([.int a1, .int a2]) ++ List.replicate (2 - (lg_sl ([.int a1, .int a2])).length) Slot.unset).toArray = ls at hl ⊢
  have hl : lv_has ls 2 [(0, .int a1), (1, .int a2)] := hl
  unfold f_X1_quarterTurn at h
  refine lv_iload_n hx hb dX1_quarterTurn_0 rfl (lv_at hl 1 rfl) ?_
  refine lv_if_eq (tgt := 14) hx hb dX1_quarterTurn_1 (by decide) (fun hc => ?_) (fun hc => ?_)
  · have h := iteT hc h
    refine lv_iload_n hx hb dX1_quarterTurn_14 rfl (lv_at hl 0 rfl) ?_
    refine lv_if_eq (tgt := 22) hx hb dX1_quarterTurn_15 (by decide) (fun hc => ?_) (fun hc => ?_)
    · have h := iteT hc h
      refine lv_iconst (v := (0)) hx hb dX1_quarterTurn_22 (by decide) ?_
      obtain rfl := Option.some.inj h
      exact W.iret hx hb hr (fun t ht hW => ⟨rfl, ht⟩) (fun q hq => absurd hq List.not_mem_nil) dX1_quarterTurn_23
    · have h := iteF hc h
      refine lv_iconst (v := (1)) hx hb dX1_quarterTurn_18 (by decide) ?_
      refine lv_goto (tgt := 23) hx hb dX1_quarterTurn_19 (by decide) ?_
      obtain rfl := Option.some.inj h
      exact W.iret hx hb hr (fun t ht hW => ⟨rfl, ht⟩) (fun q hq => absurd hq List.not_mem_nil) dX1_quarterTurn_23
  · have h := iteF hc h
    refine lv_iload_n hx hb dX1_quarterTurn_4 rfl (lv_at hl 0 rfl) ?_
    refine lv_if_eq (tgt := 12) hx hb dX1_quarterTurn_5 (by decide) (fun hc => ?_) (fun hc => ?_)
    · have h := iteT hc h
      refine lv_iconst (v := (3)) hx hb dX1_quarterTurn_12 (by decide) ?_
      obtain rfl := Option.some.inj h
      exact W.iret hx hb hr (fun t ht hW => ⟨rfl, ht⟩) (fun q hq => absurd hq List.not_mem_nil) dX1_quarterTurn_13
    · have h := iteF hc h
      refine lv_iconst (v := (2)) hx hb dX1_quarterTurn_8 (by decide) ?_
      refine lv_goto (tgt := 13) hx hb dX1_quarterTurn_9 (by decide) ?_
      obtain rfl := Option.some.inj h
      exact W.iret hx hb hr (fun t ht hW => ⟨rfl, ht⟩) (fun q hq => absurd hq List.not_mem_nil) dX1_quarterTurn_13

abbrev rm_X0_isFull : Room := { frames := 0, cells := 0, slots := 0, locals := 0 }
theorem ok_X0_isFull : okY yX0_isFull 0 := ⟨by decide +kernel, by decide +kernel, by decide +kernel⟩
set_option maxHeartbeats 4000000 in
set_option maxRecDepth 100000 in
theorem c_X0_isFull (l : Launch) (z0 : Nat) (D : va_G) (t : Nat → ClassId) (E : Nat → Nat) (μ : BS) (res : Int32) (h : f_X0_isFull μ = some res) : Met l yX0_isFull (ws_ yX0_isFull cX0_isFull 1 (some .boolean)) rm_X0_isFull (PR z0 D t [.ref (E 0)] (BW E t μ)) (QR (some (.int res))) 0 0 FN := by
  refine Met.ofW (cc := cX0_isFull) (maxL := 1) (ret := (some .boolean)) (by decide) rfl ?_
  intro p e s m args below meth c s₁ Bo hml hv
  obtain ⟨rfl, hC, hP⟩ := hv
  have hx := Bo.exec
  have hb := Bo.bytes
  have hr := Bo.returns
  have hts : ∀ w ∈ LA, w.before _ s = true := fun w hw => atoms_spec (ws := ws_ yX0_isFull cX0_isFull 1 (some .boolean)) Bo.pre w (List.mem_cons_of_mem _ hw)
  have hown : s.vm.findClass RX0 = some m.cls := findClass_of_methodNamed Bo.named
  have hlocks := Bo.notSynchronized
  have hK := hC.1
  have hl := lv_entry ([.ref (E 0)]) (n := 1) (Nat.le_of_ble_eq_true rfl)
  rw [lg_entry_eq]
  generalize (lg_sl ([.ref (E 0)]) ++ List.replicate (1 - (lg_sl ([.ref (E 0)])).length) Slot.unset).toArray = ls at hl ⊢
  have hl : lv_has ls 1 [(0, .ref (E 0))] := hl
  unfold f_X0_isFull at h
  refine lv_aload_n hx hb dX0_isFull_0 rfl (lv_at hl 0 rfl) ?_
  refine va_get hx hb hts inX0 hown hK hP 0 rfl rfl 0 (by decide) (hts _ qw69) (fun _ h9 => h9) rfl dX0_isFull_1 ?_
  refine lv_aload_n hx hb dX0_isFull_4 rfl (lv_at hl 0 rfl) ?_
  refine va_get hx hb hts inX0 hown hK hP 0 rfl rfl 1 (by decide) (hts _ qw71) (fun _ h9 => h9) rfl dX0_isFull_5 ?_
  refine va_alen hx hb hK hP 1 0 rfl rfl (v := 71) rfl dX0_isFull_8 ?_
  refine lv_icmp_lt (tgt := 16) hx hb dX0_isFull_9 (by decide) (fun hc => ?_) (fun hc => ?_)
  · have h := iteT hc h
    refine lv_iconst (v := (0)) hx hb dX0_isFull_16 (by decide) ?_
    obtain rfl := Option.some.inj h
    exact W.zret hx hb hr rfl (fun t ht hW => ⟨rfl, ht⟩) (fun q hq => absurd hq List.not_mem_nil) dX0_isFull_17
  · have h := iteF hc h
    refine lv_iconst (v := (1)) hx hb dX0_isFull_12 (by decide) ?_
    refine lv_goto (tgt := 17) hx hb dX0_isFull_13 (by decide) ?_
    obtain rfl := Option.some.inj h
    exact W.zret hx hb hr rfl (fun t ht hW => ⟨rfl, ht⟩) (fun q hq => absurd hq List.not_mem_nil) dX0_isFull_17

abbrev rm_X0_add : Room := { frames := 0, cells := 0, slots := 0, locals := 0 }
theorem ok_X0_add : okY yX0_add 1 := ⟨by decide +kernel, by decide +kernel, by decide +kernel⟩
set_option maxHeartbeats 4000000 in
set_option maxRecDepth 100000 in
theorem c_X0_add (l : Launch) (z0 : Nat) (D : va_G) (t : Nat → ClassId) (E : Nat → Nat) (μ : BS) (a1 : Int32) (res : (Int32) × (Nat → Int32)) (sz : Nat) (h : f_X0_add μ a1 = some res) : Met l yX0_add (ws_ yX0_add cX0_add 2 none) rm_X0_add (PM z0 D t [.ref (E 0), .int a1] (BW E t μ) (BL E) sz) (QM none D (BW E t (b_codes' (b_length' μ res.1) res.2)) (BL E) sz) 0 0 (OA (BL E) sz) := by
  refine Met.ofW (cc := cX0_add) (maxL := 2) (ret := none) (by decide) rfl ?_
  intro p e s m args below meth c s₁ Bo hml hv
  obtain ⟨rfl, hC, hsz, hP, hD, hZ⟩ := hv
  have hx := Bo.exec
  have hb := Bo.bytes
  have hr := Bo.returns
  have hts : ∀ w ∈ LA, w.before _ s = true := fun w hw => atoms_spec (ws := ws_ yX0_add cX0_add 2 none) Bo.pre w (List.mem_cons_of_mem _ hw)
  have hown : s.vm.findClass RX0 = some m.cls := findClass_of_methodNamed Bo.named
  have hlocks := Bo.notSynchronized
  have hK := hC.1
  subst hsz
  have hl := lv_entry ([.ref (E 0), .int a1]) (n := 2) (Nat.le_of_ble_eq_true rfl)
  rw [lg_entry_eq]
  generalize (lg_sl ([.ref (E 0), .int a1]) ++ List.replicate (2 - (lg_sl ([.ref (E 0), .int a1])).length) Slot.unset).toArray = ls at hl ⊢
  have hl : lv_has ls 2 [(0, .ref (E 0)), (1, .int a1)] := hl
  suffices K9 : ∀ (H : Heap) (locs : List Loc), va_P D vwCl (BW E t μ) H → va_S (OA (BL E) s.heap.size) s.heap H locs → W p l e (headSpec (ws_ yX0_add cX0_add 2 none) rm_X0_add).room s m ([.ref (E 0), .int a1] : List Value).toArray below meth c H locs 0 0 (MQ below (QM none D (BW E t (b_codes' (b_length' μ res.1) res.2)) (BL E) s.heap.size) ([.ref (E 0), .int a1] : List Value).toArray s 0 0 (OA (BL E) s.heap.size)) (F0 m 0 ls []) from K9 s.heap [] hP va_S.rf
  intro H locs hP hS
  have hSz : s.heap.size ≤ H.size := hS.1
  unfold f_X0_add at h
  refine lv_aload_n hx hb dX0_add_0 rfl (lv_at hl 0 rfl) ?_
  refine va_get hx hb hts inX0 hown hK hP 0 rfl rfl 0 (by decide) (hts _ qw69) (fun _ h9 => h9) rfl dX0_add_1 ?_
  refine lv_aload_n hx hb dX0_add_4 rfl (lv_at hl 0 rfl) ?_
  refine va_get hx hb hts inX0 hown hK hP 0 rfl rfl 1 (by decide) (hts _ qw71) (fun _ h9 => h9) rfl dX0_add_5 ?_
  refine va_alen hx hb hK hP 1 0 rfl rfl (v := 71) rfl dX0_add_8 ?_
  refine lv_icmp_ge (tgt := 32) hx hb dX0_add_9 (by decide) (fun hc => ?_) (fun hc => ?_)
  · have h := iteT hc h
    obtain rfl := Option.some.inj h
    exact W.vret hx hb hr (fun t ht hW => ⟨rfl, by rw [ht]; exact hP, hD, hS.F ht⟩) hS.2.2 dX0_add_32
  · have h := iteF hc h
    refine lv_aload_n hx hb dX0_add_12 rfl (lv_at hl 0 rfl) ?_
    refine va_get hx hb hts inX0 hown hK hP 0 rfl rfl 1 (by decide) (hts _ qw71) (fun _ h9 => h9) rfl dX0_add_13 ?_
    refine lv_aload_n hx hb dX0_add_16 rfl (lv_at hl 0 rfl) ?_
    refine va_get hx hb hts inX0 hown hK hP 0 rfl rfl 0 (by decide) (hts _ qw69) (fun _ h9 => h9) rfl dX0_add_17 ?_
    refine lv_iload_n hx hb dX0_add_20 rfl (lv_at hl 1 rfl) ?_
    obtain ⟨f1, ef1, h⟩ := obind h
    refine k_iast (ws' := (BW E t (b_codes' μ f1))) hx hb hK hP hD hS 1 rfl ef1 rfl dX0_add_21 (fun H locs hP hD hS => ?_)
    have hSz : s.heap.size ≤ H.size := hS.1
    refine lv_aload_n hx hb dX0_add_22 rfl (lv_at hl 0 rfl) ?_
    refine lv_dup hx hb dX0_add_23 rfl ?_
    refine va_get hx hb hts inX0 hown hK hP 0 rfl rfl 0 (by decide) (hts _ qw69) (fun _ h9 => h9) rfl dX0_add_24 ?_
    refine lv_iconst (v := (1)) hx hb dX0_add_27 (by decide) ?_
    refine lv_iadd hx hb dX0_add_28 ?_
    obtain ⟨x2, ex2, h⟩ := jlet_some h
    refine topI ex2 ?_
    refine va_put (D := D) (ci := 1) (v := .int x2) (ty := .int) hx hb hts inX0 tyX0 tyX0_ok nmX0 hown hK hP hD hS 0 rfl rfl 0 (by decide) (hts _ qw69) (fun _ h9 => h9) rfl (by decide +kernel) rfl rfl (Nat.le_of_ble_eq_true rfl) dX0_add_29 (fun H locs hP hD hS => ?_)
    have hP : va_P D vwCl (BW E t (b_codes' (b_length' μ x2) f1)) H := hP
    have hD : va_D (OA (BL E) s.heap.size) (BW E t (b_codes' (b_length' μ x2) f1)) := hD
    have hSz : s.heap.size ≤ H.size := hS.1
    obtain rfl := Option.some.inj h
    exact W.vret hx hb hr (fun t ht hW => ⟨rfl, by rw [ht]; exact hP, hD, hS.F ht⟩) hS.2.2 dX0_add_32

abbrev rm_X3_isWhole : Room := { frames := 1, cells := 0, slots := 0, locals := 20 }
theorem ok_X3_isWhole : okY yX3_isWhole 0 := ⟨by decide +kernel, by decide +kernel, by decide +kernel⟩
set_option maxHeartbeats 4000000 in
set_option maxRecDepth 100000 in
theorem c_X3_isWhole (l : Launch) (z0 : Nat) (D : va_G) (t : Nat → ClassId) (r0 : Nat) (μ : RDS) (res : Int32) (h : f_X3_isWhole μ = some res) : Met l yX3_isWhole (ws_ yX3_isWhole cX3_isWhole 1 (some .boolean)) rm_X3_isWhole (PR z0 D t [.ref r0] (RDW r0 t μ)) (QR (some (.int res))) 0 0 FN := by
  refine Met.ofW (cc := cX3_isWhole) (maxL := 1) (ret := (some .boolean)) (by decide) rfl ?_
  intro p e s m args below meth c s₁ Bo hml hv
  obtain ⟨rfl, hC, hP⟩ := hv
  have hx := Bo.exec
  have hb := Bo.bytes
  have hr := Bo.returns
  have hts : ∀ w ∈ LA, w.before _ s = true := fun w hw => atoms_spec (ws := ws_ yX3_isWhole cX3_isWhole 1 (some .boolean)) Bo.pre w (List.mem_cons_of_mem _ hw)
  have hown : s.vm.findClass RX3 = some m.cls := findClass_of_methodNamed Bo.named
  have hlocks := Bo.notSynchronized
  have hK := hC.1
  have hl := lv_entry ([.ref r0]) (n := 1) (Nat.le_of_ble_eq_true rfl)
  rw [lg_entry_eq]
  generalize (lg_sl ([.ref r0]) ++ List.replicate (1 - (lg_sl ([.ref r0])).length) Slot.unset).toArray = ls at hl ⊢
  have hl : lv_has ls 1 [(0, .ref (r0))] := hl
  unfold f_X3_isWhole at h
  refine lv_aload_n hx hb dX3_isWhole_0 rfl (lv_at hl 0 rfl) ?_
  refine va_get hx hb hts inX3 hown hK hP 0 rfl rfl 1 (by decide) (hts _ qw189) (fun _ h9 => h9) rfl dX3_isWhole_1 ?_
  refine lv_iconst (v := (1)) hx hb dX3_isWhole_4 (by decide) ?_
  refine lv_iadd hx hb dX3_isWhole_5 ?_
  refine lv_iconst (v := (2)) hx hb dX3_isWhole_6 (by decide) ?_
  refine lv_icmp_lt (tgt := 29) hx hb dX3_isWhole_7 (by decide) (fun hc => ?_) (fun hc => ?_)
  · have h := iteT hc h
    refine lv_iconst (v := (0)) hx hb dX3_isWhole_29 (by decide) ?_
    obtain rfl := Option.some.inj h
    exact W.zret hx hb hr rfl (fun t ht hW => ⟨rfl, ht⟩) (fun q hq => absurd hq List.not_mem_nil) dX3_isWhole_30
  · have h := iteF hc h
    refine lv_aload_n hx hb dX3_isWhole_10 rfl (lv_at hl 0 rfl) ?_
    obtain ⟨r1, er1, h⟩ := obind h
    refine call_R (va_runV (As := []) (rest := []) ⟨hx, hb, hml, hown, hts⟩ (c_X3_isRowWhole l z0 D t r0 μ _ er1) (kV hts qw219 qw221 qs0 qw25 qw222 ok_X3_isRowWhole ⟨Nat.le_of_ble_eq_true rfl, Nat.le_of_ble_eq_true rfl⟩) ⟨PR.blind, va_recv hK hP (ci := 4) (q0 := 0) rfl rfl, fun U hU hW => ⟨rfl, by rw [hU]; exact hC.warm hW, by rw [hU]; exact hP⟩⟩ rfl rfl hl.1 rfl (lv_room (Nat.le_of_ble_eq_true rfl)) dX3_isWhole_11 ⟨Nat.le_of_ble_eq_true rfl, Nat.le_of_ble_eq_true rfl⟩) ?_
    refine lv_if_eq (tgt := 29) hx hb dX3_isWhole_14 (by decide) (fun hc => ?_) (fun hc => ?_)
    · have h := iteT hc h
      refine lv_iconst (v := (0)) hx hb dX3_isWhole_29 (by decide) ?_
      obtain rfl := Option.some.inj h
      exact W.zret hx hb hr rfl (fun t ht hW => ⟨rfl, ht⟩) (fun q hq => absurd hq List.not_mem_nil) dX3_isWhole_30
    · have h := iteF hc h
      refine lv_aload_n hx hb dX3_isWhole_17 rfl (lv_at hl 0 rfl) ?_
      refine va_get hx hb hts inX3 hown hK hP 0 rfl rfl 2 (by decide) (hts _ qw191) (fun _ h9 => h9) rfl dX3_isWhole_18 ?_
      refine lv_iconst (v := (-1)) hx hb dX3_isWhole_21 (by decide) ?_
      refine lv_icmp_eq (tgt := 29) hx hb dX3_isWhole_22 (by decide) (fun hc => ?_) (fun hc => ?_)
      · have h := iteT hc h
        refine lv_iconst (v := (0)) hx hb dX3_isWhole_29 (by decide) ?_
        obtain rfl := Option.some.inj h
        exact W.zret hx hb hr rfl (fun t ht hW => ⟨rfl, ht⟩) (fun q hq => absurd hq List.not_mem_nil) dX3_isWhole_30
      · have h := iteF hc h
        refine lv_iconst (v := (1)) hx hb dX3_isWhole_25 (by decide) ?_
        refine lv_goto (tgt := 30) hx hb dX3_isWhole_26 (by decide) ?_
        obtain rfl := Option.some.inj h
        exact W.zret hx hb hr rfl (fun t ht hW => ⟨rfl, ht⟩) (fun q hq => absurd hq List.not_mem_nil) dX3_isWhole_30

abbrev rm_Jxe99ae_isNaN_b9ae7 : Room := { frames := 0, cells := 0, slots := 0, locals := 0 }
theorem ok_Jxe99ae_isNaN_b9ae7 : okY yJxe99ae_isNaN_b9ae7 1 := ⟨by decide +kernel, by decide +kernel, by decide +kernel⟩
set_option maxHeartbeats 4000000 in
set_option maxRecDepth 100000 in
theorem c_Jxe99ae_isNaN_b9ae7 (l : Launch) (z0 : Nat) (D : va_G) (t : Nat → ClassId) (a1 : UInt64) (res : Int32) (h : f_Jxe99ae_isNaN_b9ae7 a1 = some res) : Met l yJxe99ae_isNaN_b9ae7 (ws_ yJxe99ae_isNaN_b9ae7 cJxe99ae_isNaN_b9ae7 2 (some .boolean)) rm_Jxe99ae_isNaN_b9ae7 (PR z0 D t [.double a1] []) (QR (some (.int res))) 0 0 FN := by
  refine Met.ofW (cc := cJxe99ae_isNaN_b9ae7) (maxL := 2) (ret := (some .boolean)) (by decide) rfl ?_
  intro p e s m args below meth c s₁ Bo hml hv
  obtain ⟨rfl, hC, hP⟩ := hv
  have hx := Bo.exec
  have hb := Bo.bytes
  have hr := Bo.returns
  have hts : ∀ w ∈ LA, w.before _ s = true := fun w hw => atoms_spec (ws := ws_ yJxe99ae_isNaN_b9ae7 cJxe99ae_isNaN_b9ae7 2 (some .boolean)) Bo.pre w (List.mem_cons_of_mem _ hw)
  have hown : s.vm.findClass RJxe99ae = some m.cls := findClass_of_methodNamed Bo.named
  have hlocks := Bo.notSynchronized
  have hK := hC.1
  have hl := lv_entry ([.double a1]) (n := 2) (Nat.le_of_ble_eq_true rfl)
  rw [lg_entry_eq]
  generalize (lg_sl ([.double a1]) ++ List.replicate (2 - (lg_sl ([.double a1])).length) Slot.unset).toArray = ls at hl ⊢
  have hl : lv_has ls 2 [(0, .double a1)] := hl
  unfold f_Jxe99ae_isNaN_b9ae7 at h
  refine lv_dload_n hx hb dJxe99ae_isNaN_b9ae7_0 rfl (lv_at hl 0 rfl) ?_
  refine lv_dload_n hx hb dJxe99ae_isNaN_b9ae7_1 rfl (lv_at hl 0 rfl) ?_
  refine lv_dcmp hx hb dJxe99ae_isNaN_b9ae7_2 ?_
  refine lv_if_eq (tgt := 10) hx hb dJxe99ae_isNaN_b9ae7_3 (by decide) (fun hc => ?_) (fun hc => ?_)
  · have h := iteT hc h
    refine lv_iconst (v := (0)) hx hb dJxe99ae_isNaN_b9ae7_10 (by decide) ?_
    obtain rfl := Option.some.inj h
    exact W.zret hx hb hr rfl (fun t ht hW => ⟨rfl, ht⟩) (fun q hq => absurd hq List.not_mem_nil) dJxe99ae_isNaN_b9ae7_11
  · have h := iteF hc h
    refine lv_iconst (v := (1)) hx hb dJxe99ae_isNaN_b9ae7_6 (by decide) ?_
    refine lv_goto (tgt := 11) hx hb dJxe99ae_isNaN_b9ae7_7 (by decide) ?_
    obtain rfl := Option.some.inj h
    exact W.zret hx hb hr rfl (fun t ht hW => ⟨rfl, ht⟩) (fun q hq => absurd hq List.not_mem_nil) dJxe99ae_isNaN_b9ae7_11

abbrev rm_Jxe99ae_doubleToLongBits_ccdee : Room := { frames := 1, cells := 0, slots := 0, locals := 40 }
theorem ok_Jxe99ae_doubleToLongBits_ccdee : okY yJxe99ae_doubleToLongBits_ccdee 1 := ⟨by decide +kernel, by decide +kernel, by decide +kernel⟩
set_option maxHeartbeats 4000000 in
set_option maxRecDepth 100000 in
theorem c_Jxe99ae_doubleToLongBits_ccdee (l : Launch) (z0 : Nat) (D : va_G) (t : Nat → ClassId) (a1 : UInt64) (res : Int64) (h : f_Jxe99ae_doubleToLongBits_ccdee a1 = some res) : Met l yJxe99ae_doubleToLongBits_ccdee (ws_ yJxe99ae_doubleToLongBits_ccdee cJxe99ae_doubleToLongBits_ccdee 2 (some .long)) rm_Jxe99ae_doubleToLongBits_ccdee (PR z0 D t [.double a1] []) (QR (some (.long res))) 0 0 FN := by
  refine Met.ofW (cc := cJxe99ae_doubleToLongBits_ccdee) (maxL := 2) (ret := (some .long)) (by decide) rfl ?_
  intro p e s m args below meth c s₁ Bo hml hv
  obtain ⟨rfl, hC, hP⟩ := hv
  have hx := Bo.exec
  have hb := Bo.bytes
  have hr := Bo.returns
  have hts : ∀ w ∈ LA, w.before _ s = true := fun w hw => atoms_spec (ws := ws_ yJxe99ae_doubleToLongBits_ccdee cJxe99ae_doubleToLongBits_ccdee 2 (some .long)) Bo.pre w (List.mem_cons_of_mem _ hw)
  have hown : s.vm.findClass RJxe99ae = some m.cls := findClass_of_methodNamed Bo.named
  have hlocks := Bo.notSynchronized
  have hK := hC.1
  have hl := lv_entry ([.double a1]) (n := 2) (Nat.le_of_ble_eq_true rfl)
  rw [lg_entry_eq]
  generalize (lg_sl ([.double a1]) ++ List.replicate (2 - (lg_sl ([.double a1])).length) Slot.unset).toArray = ls at hl ⊢
  have hl : lv_has ls 2 [(0, .double a1)] := hl
  unfold f_Jxe99ae_doubleToLongBits_ccdee at h
  refine lv_dload_n hx hb dJxe99ae_doubleToLongBits_ccdee_0 rfl (lv_at hl 0 rfl) ?_
  obtain ⟨r1, er1, h⟩ := obind h
  refine call_R (va_runS (As := [.double a1]) (rest := []) ⟨hx, hb, hml, hown, hts⟩ (c_Jxe99ae_isNaN_b9ae7 l z0 D t a1 _ er1) (kS hts qw1249 qw1250 qw26 qw1251 ok_Jxe99ae_isNaN_b9ae7 ⟨Nat.le_of_ble_eq_true rfl, Nat.le_of_ble_eq_true rfl⟩) ⟨PR.blind, fun U hU hW => ⟨rfl, by rw [hU]; exact hC.warm hW, by rw [hU]; exact va_P_nil⟩⟩ rfl rfl hl.1 rfl (lv_room (Nat.le_of_ble_eq_true rfl)) dJxe99ae_doubleToLongBits_ccdee_1 ⟨Nat.le_of_ble_eq_true rfl, Nat.le_of_ble_eq_true rfl⟩) ?_
  refine lv_if_ne (tgt := 12) hx hb dJxe99ae_doubleToLongBits_ccdee_4 (by decide) (fun hc => ?_) (fun hc => ?_)
  · have h := iteF hc h
    refine lv_ldc2 (v := (9221120237041090560)) hx hb hown (hts _ qw1255) dJxe99ae_doubleToLongBits_ccdee_12 ?_
    obtain rfl := Option.some.inj h
    exact W.lret hx hb hr (fun t ht hW => ⟨rfl, ht⟩) (fun q hq => absurd hq List.not_mem_nil) dJxe99ae_doubleToLongBits_ccdee_15
  · have h := iteT hc h
    refine lv_dload_n hx hb dJxe99ae_doubleToLongBits_ccdee_7 rfl (lv_at hl 0 rfl) ?_
    refine vn_d2l hx hb (hml.trans hl.1.symm) hown (hts _ qw1252) (hts _ qw1254) (hts _ qw1253) (hts _ qw26) (Nat.le_of_ble_eq_true rfl) (Nat.le_of_ble_eq_true rfl) dJxe99ae_doubleToLongBits_ccdee_8 ?_
    obtain rfl := Option.some.inj h
    exact W.lret hx hb hr (fun t ht hW => ⟨rfl, ht⟩) (fun q hq => absurd hq List.not_mem_nil) dJxe99ae_doubleToLongBits_ccdee_11

abbrev rm_X1_paveSquare_0 : Room := { frames := 0, cells := 0, slots := 0, locals := 0 }
theorem ok_X1_paveSquare_0 : okY yX1_paveSquare 5 := ⟨by decide +kernel, by decide +kernel, by decide +kernel⟩
theorem c_X1_paveSquare_0 (l : Launch) (z0 : Nat) (D : va_G) (t : Nat → ClassId) (G : Nat → Nat) (μ : GS) (a2 : Int32) (a3 : Int32) (a4 : Int32) (a5 : Int32) (res : (Int64) × (Int32) × (Nat → Int32)) (sz : Nat) (h : f_X1_paveSquare_0 μ a2 a3 a4 a5 = some res) : Met l yX1_paveSquare (ws_ yX1_paveSquare cX1_paveSquare 15 none) rm_X1_paveSquare_0 (PM z0 D t [.ref (G 0), .int a2, .int a3, .int a4, .int a5] (GW G t μ) (GL G) sz) (QM none D (GW G t (g_names' (g_tc' (g_paved' μ res.1) res.2.1) res.2.2)) (GL G) sz) 0 0 (OA (GL G) sz) := by
  unfold f_X1_paveSquare_0 at h
  cases h

abbrev rm_X1_paveSquare_1 : Room := { frames := 2, cells := 0, slots := 0, locals := 63 }
theorem ok_X1_paveSquare_1 : okY yX1_paveSquare 5 := ⟨by decide +kernel, by decide +kernel, by decide +kernel⟩
set_option maxHeartbeats 4000000 in
set_option maxRecDepth 100000 in
theorem c_X1_paveSquare_1 (l : Launch) (z0 : Nat) (D : va_G) (t : Nat → ClassId) (G : Nat → Nat) (μ : GS) (a2 : Int32) (a3 : Int32) (a4 : Int32) (a5 : Int32) (res : (Int64) × (Int32) × (Nat → Int32)) (sz : Nat) (h : f_X1_paveSquare_1 μ a2 a3 a4 a5 = some res) : Met l yX1_paveSquare (ws_ yX1_paveSquare cX1_paveSquare 15 none) rm_X1_paveSquare_1 (PM z0 D t [.ref (G 0), .int a2, .int a3, .int a4, .int a5] (GW G t μ) (GL G) sz) (QM none D (GW G t (g_names' (g_tc' (g_paved' μ res.1) res.2.1) res.2.2)) (GL G) sz) 0 0 (OA (GL G) sz) := by
  refine Met.ofW (cc := cX1_paveSquare) (maxL := 15) (ret := none) (by decide) rfl ?_
  intro p e s m args below meth c s₁ Bo hml hv
  obtain ⟨rfl, hC, hsz, hP, hD, hZ⟩ := hv
  have hx := Bo.exec
  have hb := Bo.bytes
  have hr := Bo.returns
  have hts : ∀ w ∈ LA, w.before _ s = true := fun w hw => atoms_spec (ws := ws_ yX1_paveSquare cX1_paveSquare 15 none) Bo.pre w (List.mem_cons_of_mem _ hw)
  have hown : s.vm.findClass RX1 = some m.cls := findClass_of_methodNamed Bo.named
  have hlocks := Bo.notSynchronized
  have hK := hC.1
  subst hsz
  have hl := lv_entry ([.ref (G 0), .int a2, .int a3, .int a4, .int a5]) (n := 15) (Nat.le_of_ble_eq_true rfl)
  rw [lg_entry_eq]
  generalize (lg_sl ([.ref (G 0), .int a2, .int a3, .int a4, .int a5]) ++ List.replicate (15 - (lg_sl ([.ref (G 0), .int a2, .int a3, .int a4, .int a5])).length) Slot.unset).toArray = ls at hl ⊢
  have hl : lv_has ls 15 [(0, .ref (G 0)), (1, .int a2), (2, .int a3), (3, .int a4), (4, .int a5)] := hl
  suffices K9 : ∀ (H : Heap) (locs : List Loc), va_P D vwCl (GW G t μ) H → va_S (OA (GL G) s.heap.size) s.heap H locs → W p l e (headSpec (ws_ yX1_paveSquare cX1_paveSquare 15 none) rm_X1_paveSquare_1).room s m ([.ref (G 0), .int a2, .int a3, .int a4, .int a5] : List Value).toArray below meth c H locs 0 0 (MQ below (QM none D (GW G t (g_names' (g_tc' (g_paved' μ res.1) res.2.1) res.2.2)) (GL G) s.heap.size) ([.ref (G 0), .int a2, .int a3, .int a4, .int a5] : List Value).toArray s 0 0 (OA (GL G) s.heap.size)) (F0 m 0 ls []) from K9 s.heap [] hP va_S.rf
  intro H locs hP hS
  have hSz : s.heap.size ≤ H.size := hS.1
  unfold f_X1_paveSquare_1 at h
  refine lv_iload_n hx hb dX1_paveSquare_0 rfl (lv_at hl 3 rfl) ?_
  refine lv_iconst (v := (2)) hx hb dX1_paveSquare_1 (by decide) ?_
  refine lv_icmp_lt (tgt := 11) hx hb dX1_paveSquare_2 (by decide) (fun hc => ?_) (fun hc => ?_)
  · have h := iteT hc h
    obtain rfl := Option.some.inj h
    exact W.vret hx hb hr (fun t ht hW => ⟨rfl, by rw [ht]; exact hP, hD, hS.F ht⟩) hS.2.2 dX1_paveSquare_11
  · have h := iteF hc h
    refine lv_iload_n hx hb dX1_paveSquare_5 rfl (lv_at hl 3 rfl) ?_
    refine lv_bipush (v := (8)) hx hb dX1_paveSquare_6 (by decide) ?_
    refine lv_icmp_le (tgt := 12) hx hb dX1_paveSquare_8 (by decide) (fun hc => ?_) (fun hc => ?_)
    · have h := iteT hc h
      refine lv_iload_n hx hb dX1_paveSquare_12 rfl (lv_at hl 3 rfl) ?_
      refine lv_iconst (v := (2)) hx hb dX1_paveSquare_13 (by decide) ?_
      refine lv_idiv hx hb dX1_paveSquare_14 (by decide) ?_
      obtain ⟨x1, ex1, h⟩ := jlet_some h
      refine topI ex1 ?_
      refine lv_istore (lv' := [(5, .int x1), (0, .ref (G 0)), (1, .int a2), (2, .int a3), (3, .int a4), (4, .int a5)]) hx hb dX1_paveSquare_15 hl (by decide) rfl (fun ls hl => ?_)
      refine lv_iload hx hb dX1_paveSquare_17 (lv_at hl 5 rfl) ?_
      refine lv_bipush (v := (8)) hx hb dX1_paveSquare_19 (by decide) ?_
      refine lv_irem hx hb dX1_paveSquare_21 (by decide) ?_
      refine lv_iload_n hx hb dX1_paveSquare_22 rfl (lv_at hl 2 rfl) ?_
      refine lv_iload hx hb dX1_paveSquare_23 (lv_at hl 0 rfl) ?_
      refine lv_iadd hx hb dX1_paveSquare_25 ?_
      obtain ⟨o2, eo2, h⟩ := obind h
      have hJ34_o2 : ∀ (ls : Array Slot) (H : Heap) (locs : List Loc), lv_has ls 15 [(0, .ref (G 0)), (1, .int a2), (2, .int a3), (4, .int a5), (5, .int x1)] → va_P D vwCl (GW G t μ) H → va_D (OA (GL G) s.heap.size) (GW G t μ) → va_S (OA (GL G) s.heap.size) s.heap H locs → W p l e (headSpec (ws_ yX1_paveSquare cX1_paveSquare 15 none) rm_X1_paveSquare_1).room s m ([.ref (G 0), .int a2, .int a3, .int a4, .int a5] : List Value).toArray below meth c H locs 0 0 (MQ below (QM none D (GW G t (g_names' (g_tc' (g_paved' μ res.1) res.2.1) res.2.2)) (GL G) s.heap.size) ([.ref (G 0), .int a2, .int a3, .int a4, .int a5] : List Value).toArray s 0 0 (OA (GL G) s.heap.size)) (F0 m 34 ls [.int o2]) := by
        intro ls H locs hl hP hD hS
        have hSz : s.heap.size ≤ H.size := hS.1
        refine lv_istore (lv' := [(6, .int o2), (0, .ref (G 0)), (1, .int a2), (2, .int a3), (4, .int a5), (5, .int x1)]) hx hb dX1_paveSquare_34 hl (by decide) rfl (fun ls hl => ?_)
        refine lv_iload hx hb dX1_paveSquare_36 (lv_at hl 4 rfl) ?_
        refine lv_bipush (v := (8)) hx hb dX1_paveSquare_38 (by decide) ?_
        refine lv_idiv hx hb dX1_paveSquare_40 (by decide) ?_
        refine lv_iload_n hx hb dX1_paveSquare_41 rfl (lv_at hl 3 rfl) ?_
        refine lv_iload hx hb dX1_paveSquare_42 (lv_at hl 5 rfl) ?_
        refine lv_iadd hx hb dX1_paveSquare_44 ?_
        obtain ⟨o3, eo3, h⟩ := obind h
        have hJ53_o3 : ∀ (ls : Array Slot) (H : Heap) (locs : List Loc), lv_has ls 15 [(0, .ref (G 0)), (1, .int a2), (2, .int a3), (4, .int a5), (5, .int x1), (6, .int o2)] → va_P D vwCl (GW G t μ) H → va_D (OA (GL G) s.heap.size) (GW G t μ) → va_S (OA (GL G) s.heap.size) s.heap H locs → W p l e (headSpec (ws_ yX1_paveSquare cX1_paveSquare 15 none) rm_X1_paveSquare_1).room s m ([.ref (G 0), .int a2, .int a3, .int a4, .int a5] : List Value).toArray below meth c H locs 0 0 (MQ below (QM none D (GW G t (g_names' (g_tc' (g_paved' μ res.1) res.2.1) res.2.2)) (GL G) s.heap.size) ([.ref (G 0), .int a2, .int a3, .int a4, .int a5] : List Value).toArray s 0 0 (OA (GL G) s.heap.size)) (F0 m 53 ls [.int o3]) := by
          intro ls H locs hl hP hD hS
          have hSz : s.heap.size ≤ H.size := hS.1
          refine lv_istore (lv' := [(7, .int o3), (0, .ref (G 0)), (1, .int a2), (2, .int a3), (4, .int a5), (5, .int x1), (6, .int o2)]) hx hb dX1_paveSquare_53 hl (by decide) rfl (fun ls hl => ?_)
          refine lv_iload_n hx hb dX1_paveSquare_55 rfl (lv_at hl 2 rfl) ?_
          refine lv_iload hx hb dX1_paveSquare_56 (lv_at hl 5 rfl) ?_
          refine lv_iadd hx hb dX1_paveSquare_58 ?_
          refine lv_iconst (v := (1)) hx hb dX1_paveSquare_59 (by decide) ?_
          refine lv_isub hx hb dX1_paveSquare_60 ?_
          obtain ⟨x4, ex4, h⟩ := jlet_some h
          refine topI ex4 ?_
          refine lv_istore (lv' := [(8, .int x4), (7, .int o3), (0, .ref (G 0)), (1, .int a2), (2, .int a3), (4, .int a5), (5, .int x1), (6, .int o2)]) hx hb dX1_paveSquare_61 hl (by decide) rfl (fun ls hl => ?_)
          refine lv_iload_n hx hb dX1_paveSquare_63 rfl (lv_at hl 4 rfl) ?_
          refine lv_iload hx hb dX1_paveSquare_64 (lv_at hl 6 rfl) ?_
          refine lv_iadd hx hb dX1_paveSquare_66 ?_
          refine lv_iconst (v := (1)) hx hb dX1_paveSquare_67 (by decide) ?_
          refine lv_isub hx hb dX1_paveSquare_68 ?_
          obtain ⟨x5, ex5, h⟩ := jlet_some h
          refine topI ex5 ?_
          refine lv_istore (lv' := [(9, .int x5), (8, .int x4), (7, .int o3), (0, .ref (G 0)), (1, .int a2), (2, .int a3), (4, .int a5), (5, .int x1), (6, .int o2)]) hx hb dX1_paveSquare_69 hl (by decide) rfl (fun ls hl => ?_)
          refine lv_aload_n hx hb dX1_paveSquare_71 rfl (lv_at hl 3 rfl) ?_
          refine lv_iload hx hb dX1_paveSquare_72 (lv_at hl 1 rfl) ?_
          refine lv_iload hx hb dX1_paveSquare_74 (lv_at hl 0 rfl) ?_
          refine lv_iload hx hb dX1_paveSquare_76 (lv_at hl 8 rfl) ?_
          refine lv_iload hx hb dX1_paveSquare_78 (lv_at hl 2 rfl) ?_
          obtain ⟨r6, er6, h⟩ := obind h
          refine call_R (va_runS (As := [.int o2, .int o3]) (rest := [.int x5, .int x4, .ref (G 0)]) ⟨hx, hb, hml, hown, hts⟩ (c_X1_quarterTurn l z0 D t o2 o3 _ er6) (kS hts qw858 qw859 qw8 qw860 ok_X1_quarterTurn ⟨Nat.le_of_ble_eq_true rfl, Nat.le_of_ble_eq_true rfl⟩) ⟨PR.blind, fun U hU hW => ⟨rfl, by rw [hU]; exact (hC.at hS hZ).warm hW, by rw [hU]; exact va_P_nil⟩⟩ rfl rfl hl.1 rfl (lv_room (Nat.le_of_ble_eq_true rfl)) dX1_paveSquare_80 ⟨Nat.le_of_ble_eq_true rfl, Nat.le_of_ble_eq_true rfl⟩) ?_
          obtain ⟨r7, er7, h⟩ := obind h
          refine call_M (va_runV (As := [.int x4, .int x5, .int r6]) (rest := []) ⟨hx, hb, hml, hown, hts⟩ (c_X1_putTriple l z0 D t G μ x4 x5 r6 _ H.size er7) (kV hts qw820 qw787 qw788 qw8 qw789 ok_X1_putTriple ⟨Nat.le_of_ble_eq_true rfl, Nat.le_of_ble_eq_true rfl⟩) ⟨PM.blind, va_recv hK hP (ci := 2) (q0 := 0) rfl rfl, fun U hU hW => ⟨rfl, by rw [hU]; exact (hC.at hS hZ).warm hW, by rw [hU], by rw [hU]; exact hP, ⟨hD.1, fun _ _ h9 => Or.inl (in_map (L := (GL G)) rfl h9)⟩, fun q hq => hZ q (OA.ofD hD rfl hSz q hq)⟩⟩ rfl rfl hl.1 rfl (lv_room (Nat.le_of_ble_eq_true rfl)) dX1_paveSquare_83 ⟨Nat.le_of_ble_eq_true rfl, Nat.le_of_ble_eq_true rfl⟩) hS (OA.ofD hD rfl hSz) (fun H locs hP hD1 hS _ _ => ?_)
          have hP : va_P D vwCl (GW G t (g_names' (g_tc' (g_paved' μ r7.1) r7.2.1) r7.2.2)) H := hP
          have hD : va_D (OA (GL G) s.heap.size) (GW G t (g_names' (g_tc' (g_paved' μ r7.1) r7.2.1) r7.2.2)) := hD1.weaken (fun _ q _ h9 => OA.ofD hD rfl hSz q.1 h9)
          have hSz : s.heap.size ≤ H.size := hS.1
          refine lv_iconst (v := (0)) hx hb dX1_paveSquare_86 (by decide) ?_
          refine lv_istore (lv' := [(10, .int (0 : Int32)), (9, .int x5), (8, .int x4), (7, .int o3), (0, .ref (G 0)), (1, .int a2), (2, .int a3), (4, .int a5), (5, .int x1), (6, .int o2)]) hx hb dX1_paveSquare_87 hl (by decide) rfl (fun ls hl => ?_)
          obtain ⟨o30, eo30, h⟩ := obind h
          have hL89 : ∀ (n : Nat) (y10_89 : Int32) (paved_89 : Int64) (tc_89 : Int32) (names_89 : Nat → Int32) (o30 : (Int64) × (Int32) × (Nat → Int32)), f_X1_paveSquare_1_L89 a2 a3 a5 μ x1 o2 o3 x4 x5 n y10_89 paved_89 tc_89 names_89 = some o30 → (∀ (ls : Array Slot) (H : Heap) (locs : List Loc), lv_has ls 15 [] → va_P D vwCl (GW G t (g_names' (g_tc' (g_paved' μ o30.1) o30.2.1) o30.2.2)) H → va_D (OA (GL G) s.heap.size) (GW G t (g_names' (g_tc' (g_paved' μ o30.1) o30.2.1) o30.2.2)) → va_S (OA (GL G) s.heap.size) s.heap H locs → W p l e (headSpec (ws_ yX1_paveSquare cX1_paveSquare 15 none) rm_X1_paveSquare_1).room s m ([.ref (G 0), .int a2, .int a3, .int a4, .int a5] : List Value).toArray below meth c H locs 0 0 (MQ below (QM none D (GW G t (g_names' (g_tc' (g_paved' μ res.1) res.2.1) res.2.2)) (GL G) s.heap.size) ([.ref (G 0), .int a2, .int a3, .int a4, .int a5] : List Value).toArray s 0 0 (OA (GL G) s.heap.size)) (F0 m 199 ls [])) → ∀ (ls : Array Slot) (H : Heap) (locs : List Loc), lv_has ls 15 [(0, .ref (G 0)), (1, .int a2), (2, .int a3), (4, .int a5), (5, .int x1), (6, .int o2), (7, .int o3), (8, .int x4), (9, .int x5), (10, .int y10_89)] → va_P D vwCl (GW G t (g_names' (g_tc' (g_paved' μ paved_89) tc_89) names_89)) H → va_D (OA (GL G) s.heap.size) (GW G t (g_names' (g_tc' (g_paved' μ paved_89) tc_89) names_89)) → va_S (OA (GL G) s.heap.size) s.heap H locs → W p l e (headSpec (ws_ yX1_paveSquare cX1_paveSquare 15 none) rm_X1_paveSquare_1).room s m ([.ref (G 0), .int a2, .int a3, .int a4, .int a5] : List Value).toArray below meth c H locs 0 0 (MQ below (QM none D (GW G t (g_names' (g_tc' (g_paved' μ res.1) res.2.1) res.2.2)) (GL G) s.heap.size) ([.ref (G 0), .int a2, .int a3, .int a4, .int a5] : List Value).toArray s 0 0 (OA (GL G) s.heap.size)) (F0 m 89 ls []) := by
            intro n
            induction n with
            | zero => intro y10_89 paved_89 tc_89 names_89 o30 h; exact absurd h (fun z => by cases z)
            | succ n ih =>
              intro y10_89 paved_89 tc_89 names_89 o30 h hK89 ls H locs hl hP hD hS
              replace h : f_X1_paveSquare_1_L89_b a2 a3 a5 μ x1 o2 o3 x4 x5 (f_X1_paveSquare_1_L89 a2 a3 a5 μ x1 o2 o3 x4 x5 n) y10_89 paved_89 tc_89 names_89 = some o30 := h
              unfold f_X1_paveSquare_1_L89_b at h
              have hSz : s.heap.size ≤ H.size := hS.1
              refine lv_iload hx hb dX1_paveSquare_89 (lv_at hl 9 rfl) ?_
              refine lv_iconst (v := (4)) hx hb dX1_paveSquare_91 (by decide) ?_
              refine lv_icmp_ge (tgt := 199) hx hb dX1_paveSquare_92 (by decide) (fun hc => ?_) (fun hc => ?_)
              · have h := iteT hc h
                obtain rfl := Option.some.inj h
                exact hK89 ls H locs (lv_sub hl [] rfl) hP hD hS
              · have h := iteF hc h
                refine lv_iload hx hb dX1_paveSquare_95 (lv_at hl 9 rfl) ?_
                refine lv_iconst (v := (2)) hx hb dX1_paveSquare_97 (by decide) ?_
                refine lv_irem hx hb dX1_paveSquare_98 (by decide) ?_
                obtain ⟨x31, ex31, h⟩ := jlet_some h
                refine topI ex31 ?_
                refine lv_istore (lv' := [(11, .int x31), (0, .ref (G 0)), (1, .int a2), (2, .int a3), (4, .int a5), (5, .int x1), (6, .int o2), (7, .int o3), (8, .int x4), (9, .int x5), (10, .int y10_89)]) hx hb dX1_paveSquare_99 hl (by decide) rfl (fun ls hl => ?_)
                refine lv_iload hx hb dX1_paveSquare_101 (lv_at hl 10 rfl) ?_
                refine lv_iconst (v := (2)) hx hb dX1_paveSquare_103 (by decide) ?_
                refine lv_idiv hx hb dX1_paveSquare_104 (by decide) ?_
                obtain ⟨x32, ex32, h⟩ := jlet_some h
                refine topI ex32 ?_
                refine lv_istore (lv' := [(12, .int x32), (11, .int x31), (0, .ref (G 0)), (1, .int a2), (2, .int a3), (4, .int a5), (5, .int x1), (6, .int o2), (7, .int o3), (8, .int x4), (9, .int x5), (10, .int y10_89)]) hx hb dX1_paveSquare_105 hl (by decide) rfl (fun ls hl => ?_)
                refine lv_iload hx hb dX1_paveSquare_107 (lv_at hl 7 rfl) ?_
                refine lv_iload hx hb dX1_paveSquare_109 (lv_at hl 1 rfl) ?_
                refine lv_iconst (v := (1)) hx hb dX1_paveSquare_111 (by decide) ?_
                obtain ⟨o33, eo33, h⟩ := obind h
                have hJ120_o33 : ∀ (ls : Array Slot) (H : Heap) (locs : List Loc), lv_has ls 15 [(0, .ref (G 0)), (1, .int a2), (2, .int a3), (4, .int a5), (5, .int x1), (6, .int o2), (7, .int o3), (8, .int x4), (9, .int x5), (10, .int y10_89), (11, .int x31), (12, .int x32)] → va_P D vwCl (GW G t (g_names' (g_tc' (g_paved' μ paved_89) tc_89) names_89)) H → va_D (OA (GL G) s.heap.size) (GW G t (g_names' (g_tc' (g_paved' μ paved_89) tc_89) names_89)) → va_S (OA (GL G) s.heap.size) s.heap H locs → W p l e (headSpec (ws_ yX1_paveSquare cX1_paveSquare 15 none) rm_X1_paveSquare_1).room s m ([.ref (G 0), .int a2, .int a3, .int a4, .int a5] : List Value).toArray below meth c H locs 0 0 (MQ below (QM none D (GW G t (g_names' (g_tc' (g_paved' μ res.1) res.2.1) res.2.2)) (GL G) s.heap.size) ([.ref (G 0), .int a2, .int a3, .int a4, .int a5] : List Value).toArray s 0 0 (OA (GL G) s.heap.size)) (F0 m 120 ls [.int o33, .int o2]) := by
                  intro ls H locs hl hP hD hS
                  have hSz : s.heap.size ≤ H.size := hS.1
                  obtain ⟨o35, eo35, h⟩ := obind h
                  have hJ144_o35 : ∀ (ls : Array Slot) (H : Heap) (locs : List Loc), lv_has ls 15 [(0, .ref (G 0)), (1, .int a2), (2, .int a3), (4, .int a5), (5, .int x1), (6, .int o2), (7, .int o3), (8, .int x4), (9, .int x5), (10, .int y10_89), (11, .int x31), (12, .int x32)] → va_P D vwCl (GW G t (g_names' (g_tc' (g_paved' μ paved_89) tc_89) names_89)) H → va_D (OA (GL G) s.heap.size) (GW G t (g_names' (g_tc' (g_paved' μ paved_89) tc_89) names_89)) → va_S (OA (GL G) s.heap.size) s.heap H locs → W p l e (headSpec (ws_ yX1_paveSquare cX1_paveSquare 15 none) rm_X1_paveSquare_1).room s m ([.ref (G 0), .int a2, .int a3, .int a4, .int a5] : List Value).toArray below meth c H locs 0 0 (MQ below (QM none D (GW G t (g_names' (g_tc' (g_paved' μ res.1) res.2.1) res.2.2)) (GL G) s.heap.size) ([.ref (G 0), .int a2, .int a3, .int a4, .int a5] : List Value).toArray s 0 0 (OA (GL G) s.heap.size)) (F0 m 144 ls [.int o35]) := by
                    intro ls H locs hl hP hD hS
                    have hSz : s.heap.size ≤ H.size := hS.1
                    refine lv_istore (lv' := [(13, .int o35), (0, .ref (G 0)), (1, .int a2), (2, .int a3), (4, .int a5), (5, .int x1), (6, .int o2), (7, .int o3), (8, .int x4), (9, .int x5), (10, .int y10_89), (11, .int x31), (12, .int x32)]) hx hb dX1_paveSquare_144 hl (by decide) rfl (fun ls hl => ?_)
                    refine lv_iload hx hb dX1_paveSquare_146 (lv_at hl 0 rfl) ?_
                    obtain ⟨o38, eo38, h⟩ := obind h
                    have hJ169_o38 : ∀ (ls : Array Slot) (H : Heap) (locs : List Loc), lv_has ls 15 [(0, .ref (G 0)), (1, .int a2), (2, .int a3), (4, .int a5), (5, .int x1), (6, .int o2), (7, .int o3), (8, .int x4), (9, .int x5), (10, .int y10_89), (11, .int x31), (12, .int x32)] → va_P D vwCl (GW G t (g_names' (g_tc' (g_paved' μ paved_89) tc_89) names_89)) H → va_D (OA (GL G) s.heap.size) (GW G t (g_names' (g_tc' (g_paved' μ paved_89) tc_89) names_89)) → va_S (OA (GL G) s.heap.size) s.heap H locs → W p l e (headSpec (ws_ yX1_paveSquare cX1_paveSquare 15 none) rm_X1_paveSquare_1).room s m ([.ref (G 0), .int a2, .int a3, .int a4, .int a5] : List Value).toArray below meth c H locs 0 0 (MQ below (QM none D (GW G t (g_names' (g_tc' (g_paved' μ res.1) res.2.1) res.2.2)) (GL G) s.heap.size) ([.ref (G 0), .int a2, .int a3, .int a4, .int a5] : List Value).toArray s 0 0 (OA (GL G) s.heap.size)) (F0 m 169 ls [.int o38]) := by
                      intro ls H locs hl hP hD hS
                      have hSz : s.heap.size ≤ H.size := hS.1
                      refine lv_istore (lv' := [(14, .int o38), (0, .ref (G 0)), (1, .int a2), (2, .int a3), (4, .int a5), (5, .int x1), (6, .int o2), (7, .int o3), (8, .int x4), (9, .int x5), (10, .int y10_89), (11, .int x31), (12, .int x32)]) hx hb dX1_paveSquare_169 hl (by decide) rfl (fun ls hl => ?_)
                      refine lv_aload_n hx hb dX1_paveSquare_171 rfl (lv_at hl 1 rfl) ?_
                      refine lv_iload_n hx hb dX1_paveSquare_172 rfl (lv_at hl 2 rfl) ?_
                      refine lv_iload hx hb dX1_paveSquare_173 (lv_at hl 5 rfl) ?_
                      refine lv_iload hx hb dX1_paveSquare_175 (lv_at hl 11 rfl) ?_
                      refine lv_imul hx hb dX1_paveSquare_177 ?_
                      refine lv_iadd hx hb dX1_paveSquare_178 ?_
                      refine lv_iload_n hx hb dX1_paveSquare_179 rfl (lv_at hl 3 rfl) ?_
                      refine lv_iload hx hb dX1_paveSquare_180 (lv_at hl 5 rfl) ?_
                      refine lv_iload hx hb dX1_paveSquare_182 (lv_at hl 12 rfl) ?_
                      refine lv_imul hx hb dX1_paveSquare_184 ?_
                      refine lv_iadd hx hb dX1_paveSquare_185 ?_
                      refine lv_iload hx hb dX1_paveSquare_186 (lv_at hl 5 rfl) ?_
                      refine lv_iload hx hb dX1_paveSquare_188 (lv_at hl 0 rfl) ?_
                      obtain ⟨r40, er40, h⟩ := obind h
                      refine call_M (va_runS (As := [.ref (G 0), .int (a2 + (x1 * x31)), .int (a3 + (x1 * x32)), .int x1, .int o38]) (rest := []) ⟨hx, hb, hml, hown, hts⟩ (c_X1_paveSquare_0 l z0 D t G (g_names' (g_tc' (g_paved' μ paved_89) tc_89) names_89) (a2 + (x1 * x31)) (a3 + (x1 * x32)) x1 o38 _ H.size er40) (kS hts qw855 qw856 qw8 qw857 ok_X1_paveSquare_0 ⟨Nat.le_of_ble_eq_true rfl, Nat.le_of_ble_eq_true rfl⟩) ⟨PM.blind, fun U hU hW => ⟨rfl, by rw [hU]; exact (hC.at hS hZ).warm hW, by rw [hU], by rw [hU]; exact hP, ⟨hD.1, fun _ _ h9 => Or.inl (in_map (L := (GL G)) rfl h9)⟩, fun q hq => hZ q (OA.ofD hD rfl hSz q hq)⟩⟩ rfl rfl hl.1 rfl (lv_room (Nat.le_of_ble_eq_true rfl)) dX1_paveSquare_190 ⟨Nat.le_of_ble_eq_true rfl, Nat.le_of_ble_eq_true rfl⟩) hS (OA.ofD hD rfl hSz) (fun H locs hP hD1 hS _ _ => ?_)
                      have hP : va_P D vwCl (GW G t (g_names' (g_tc' (g_paved' μ r40.1) r40.2.1) r40.2.2)) H := hP
                      have hD : va_D (OA (GL G) s.heap.size) (GW G t (g_names' (g_tc' (g_paved' μ r40.1) r40.2.1) r40.2.2)) := hD1.weaken (fun _ q _ h9 => OA.ofD hD rfl hSz q.1 h9)
                      have hSz : s.heap.size ≤ H.size := hS.1
                      obtain ⟨x41, ex41, h⟩ := jlet_some h
                      refine lv_iinc (v := x41) (lv' := [(10, .int x41), (14, .int o38), (0, .ref (G 0)), (1, .int a2), (2, .int a3), (4, .int a5), (5, .int x1), (6, .int o2), (7, .int o3), (8, .int x4), (9, .int x5), (11, .int x31), (12, .int x32)]) hx hb dX1_paveSquare_193 hl (k := 10) rfl (by rw [ex41]; rfl) (by decide) rfl (fun ls hl => ?_)
                      refine lv_goto (tgt := 89) hx hb dX1_paveSquare_196 (by decide) ?_
                      exact ih _ _ _ _ _ h hK89 ls H locs (lv_sub hl [2, 3, 4, 5, 6, 7, 8, 9, 10, 0] rfl) hP hD hS
                    have h := eo38
                    clear eo38
                    refine lv_if_eq (tgt := 156) hx hb dX1_paveSquare_148 (by decide) (fun hc => ?_) (fun hc => ?_)
                    · have h := iteT hc h
                      refine lv_iload hx hb dX1_paveSquare_156 (lv_at hl 8 rfl) ?_
                      refine lv_iload hx hb dX1_paveSquare_158 (lv_at hl 11 rfl) ?_
                      refine lv_iadd hx hb dX1_paveSquare_160 ?_
                      refine lv_iload hx hb dX1_paveSquare_161 (lv_at hl 9 rfl) ?_
                      refine lv_iload hx hb dX1_paveSquare_163 (lv_at hl 12 rfl) ?_
                      refine lv_iadd hx hb dX1_paveSquare_165 ?_
                      obtain ⟨r39, er39, h⟩ := obind h
                      refine call_R (va_runSN (As := [.int (x4 + x31), .int (x5 + x32)]) (rest := []) ⟨hx, hb, hml, hown, hts⟩ (c_X4_placeOf l z0 D t (x4 + x31) (x5 + x32) _ er39) ⟨kN hts (hC.2.1 _ qw249) qw1 qw233 ok_X4_placeOf ⟨Nat.le_of_ble_eq_true rfl, Nat.le_of_ble_eq_true rfl⟩, hts _ qw232, trivial⟩ ⟨PR.blind, fun U hU hW => ⟨rfl, by rw [hU]; exact (hC.at hS hZ).warm hW, by rw [hU]; exact va_P_nil⟩⟩ rfl rfl hl.1 rfl (lv_room (Nat.le_of_ble_eq_true rfl)) dX1_paveSquare_166 ⟨Nat.le_of_ble_eq_true rfl, Nat.le_of_ble_eq_true rfl⟩) ?_
                      obtain rfl := Option.some.inj h
                      exact hJ169_o38 ls H locs (lv_sub hl [1, 2, 3, 4, 5, 6, 7, 8, 9, 10, 11, 12] rfl) hP hD hS
                    · have h := iteF hc h
                      refine lv_iload hx hb dX1_paveSquare_151 (lv_at hl 4 rfl) ?_
                      refine lv_goto (tgt := 169) hx hb dX1_paveSquare_153 (by decide) ?_
                      obtain rfl := Option.some.inj h
                      exact hJ169_o38 ls H locs (lv_sub hl [1, 2, 3, 4, 5, 6, 7, 8, 9, 10, 11, 12] rfl) hP hD hS
                  have h := eo35
                  clear eo35
                  refine lv_icmp_ne (tgt := 143) hx hb dX1_paveSquare_120 (by decide) (fun hc => ?_) (fun hc => ?_)
                  · have h := iteF hc h
                    refine lv_iconst (v := (0)) hx hb dX1_paveSquare_143 (by decide) ?_
                    obtain rfl := Option.some.inj h
                    exact hJ144_o35 ls H locs (lv_sub hl [0, 1, 2, 3, 4, 5, 6, 7, 8, 9, 10, 11] rfl) hP hD hS
                  · have h := iteT hc h
                    refine lv_iload hx hb dX1_paveSquare_123 (lv_at hl 6 rfl) ?_
                    refine lv_iload hx hb dX1_paveSquare_125 (lv_at hl 11 rfl) ?_
                    refine lv_iconst (v := (1)) hx hb dX1_paveSquare_127 (by decide) ?_
                    obtain ⟨o36, eo36, h⟩ := obind h
                    have hJ136_o36 : ∀ (ls : Array Slot) (H : Heap) (locs : List Loc), lv_has ls 15 [(0, .ref (G 0)), (1, .int a2), (2, .int a3), (4, .int a5), (5, .int x1), (6, .int o2), (7, .int o3), (8, .int x4), (9, .int x5), (10, .int y10_89), (11, .int x31), (12, .int x32)] → va_P D vwCl (GW G t (g_names' (g_tc' (g_paved' μ paved_89) tc_89) names_89)) H → va_D (OA (GL G) s.heap.size) (GW G t (g_names' (g_tc' (g_paved' μ paved_89) tc_89) names_89)) → va_S (OA (GL G) s.heap.size) s.heap H locs → W p l e (headSpec (ws_ yX1_paveSquare cX1_paveSquare 15 none) rm_X1_paveSquare_1).room s m ([.ref (G 0), .int a2, .int a3, .int a4, .int a5] : List Value).toArray below meth c H locs 0 0 (MQ below (QM none D (GW G t (g_names' (g_tc' (g_paved' μ res.1) res.2.1) res.2.2)) (GL G) s.heap.size) ([.ref (G 0), .int a2, .int a3, .int a4, .int a5] : List Value).toArray s 0 0 (OA (GL G) s.heap.size)) (F0 m 136 ls [.int o36, .int o3]) := by
                      intro ls H locs hl hP hD hS
                      have hSz : s.heap.size ≤ H.size := hS.1
                      refine lv_icmp_ne (tgt := 143) hx hb dX1_paveSquare_136 (by decide) (fun hc => ?_) (fun hc => ?_)
                      · have h := iteF hc h
                        refine lv_iconst (v := (0)) hx hb dX1_paveSquare_143 (by decide) ?_
                        obtain rfl := Option.some.inj h
                        exact hJ144_o35 ls H locs (lv_sub hl [0, 1, 2, 3, 4, 5, 6, 7, 8, 9, 10, 11] rfl) hP hD hS
                      · have h := iteT hc h
                        refine lv_iconst (v := (1)) hx hb dX1_paveSquare_139 (by decide) ?_
                        refine lv_goto (tgt := 144) hx hb dX1_paveSquare_140 (by decide) ?_
                        obtain rfl := Option.some.inj h
                        exact hJ144_o35 ls H locs (lv_sub hl [0, 1, 2, 3, 4, 5, 6, 7, 8, 9, 10, 11] rfl) hP hD hS
                    have h := eo36
                    clear eo36
                    refine lv_icmp_ne (tgt := 135) hx hb dX1_paveSquare_128 (by decide) (fun hc => ?_) (fun hc => ?_)
                    · have h := iteF hc h
                      refine lv_iconst (v := (0)) hx hb dX1_paveSquare_135 (by decide) ?_
                      obtain rfl := Option.some.inj h
                      exact hJ136_o36 ls H locs (lv_sub hl [0, 1, 2, 3, 4, 5, 6, 7, 8, 9, 10, 11] rfl) hP hD hS
                    · have h := iteT hc h
                      refine lv_iconst (v := (1)) hx hb dX1_paveSquare_131 (by decide) ?_
                      refine lv_goto (tgt := 136) hx hb dX1_paveSquare_132 (by decide) ?_
                      obtain rfl := Option.some.inj h
                      exact hJ136_o36 ls H locs (lv_sub hl [0, 1, 2, 3, 4, 5, 6, 7, 8, 9, 10, 11] rfl) hP hD hS
                have h := eo33
                clear eo33
                refine lv_icmp_ne (tgt := 119) hx hb dX1_paveSquare_112 (by decide) (fun hc => ?_) (fun hc => ?_)
                · have h := iteF hc h
                  refine lv_iconst (v := (0)) hx hb dX1_paveSquare_119 (by decide) ?_
                  obtain rfl := Option.some.inj h
                  exact hJ120_o33 ls H locs (lv_sub hl [2, 3, 4, 5, 6, 7, 8, 9, 10, 11, 1, 0] rfl) hP hD hS
                · have h := iteT hc h
                  refine lv_iconst (v := (1)) hx hb dX1_paveSquare_115 (by decide) ?_
                  refine lv_goto (tgt := 120) hx hb dX1_paveSquare_116 (by decide) ?_
                  obtain rfl := Option.some.inj h
                  exact hJ120_o33 ls H locs (lv_sub hl [2, 3, 4, 5, 6, 7, 8, 9, 10, 11, 1, 0] rfl) hP hD hS
          refine hL89 _ _ _ _ _ _ eo30 (fun ls H locs hl hP hD hS => ?_) ls H locs (lv_sub hl [4, 5, 6, 7, 8, 9, 3, 2, 1, 0] rfl) hP hD hS
          have hSz : s.heap.size ≤ H.size := hS.1
          obtain rfl := Option.some.inj h
          exact W.vret hx hb hr (fun t ht hW => ⟨rfl, by rw [ht]; exact hP, hD, hS.F ht⟩) hS.2.2 dX1_paveSquare_199
        have h := eo3
        clear eo3
        refine lv_icmp_lt (tgt := 52) hx hb dX1_paveSquare_45 (by decide) (fun hc => ?_) (fun hc => ?_)
        · have h := iteT hc h
          refine lv_iconst (v := (0)) hx hb dX1_paveSquare_52 (by decide) ?_
          obtain rfl := Option.some.inj h
          exact hJ53_o3 ls H locs (lv_sub hl [1, 2, 3, 4, 5, 0] rfl) hP hD hS
        · have h := iteF hc h
          refine lv_iconst (v := (1)) hx hb dX1_paveSquare_48 (by decide) ?_
          refine lv_goto (tgt := 53) hx hb dX1_paveSquare_49 (by decide) ?_
          obtain rfl := Option.some.inj h
          exact hJ53_o3 ls H locs (lv_sub hl [1, 2, 3, 4, 5, 0] rfl) hP hD hS
      have h := eo2
      clear eo2
      refine lv_icmp_lt (tgt := 33) hx hb dX1_paveSquare_26 (by decide) (fun hc => ?_) (fun hc => ?_)
      · have h := iteT hc h
        refine lv_iconst (v := (0)) hx hb dX1_paveSquare_33 (by decide) ?_
        obtain rfl := Option.some.inj h
        exact hJ34_o2 ls H locs (lv_sub hl [1, 2, 3, 5, 0] rfl) hP hD hS
      · have h := iteF hc h
        refine lv_iconst (v := (1)) hx hb dX1_paveSquare_29 (by decide) ?_
        refine lv_goto (tgt := 34) hx hb dX1_paveSquare_30 (by decide) ?_
        obtain rfl := Option.some.inj h
        exact hJ34_o2 ls H locs (lv_sub hl [1, 2, 3, 5, 0] rfl) hP hD hS
    · have h := iteF hc h
      obtain rfl := Option.some.inj h
      exact W.vret hx hb hr (fun t ht hW => ⟨rfl, by rw [ht]; exact hP, hD, hS.F ht⟩) hS.2.2 dX1_paveSquare_11

abbrev rm_X1_paveSquare_2 : Room := { frames := 3, cells := 0, slots := 0, locals := 97 }
theorem ok_X1_paveSquare_2 : okY yX1_paveSquare 5 := ⟨by decide +kernel, by decide +kernel, by decide +kernel⟩
set_option maxHeartbeats 4000000 in
set_option maxRecDepth 100000 in
theorem c_X1_paveSquare_2 (l : Launch) (z0 : Nat) (D : va_G) (t : Nat → ClassId) (G : Nat → Nat) (μ : GS) (a2 : Int32) (a3 : Int32) (a4 : Int32) (a5 : Int32) (res : (Int64) × (Int32) × (Nat → Int32)) (sz : Nat) (h : f_X1_paveSquare_2 μ a2 a3 a4 a5 = some res) : Met l yX1_paveSquare (ws_ yX1_paveSquare cX1_paveSquare 15 none) rm_X1_paveSquare_2 (PM z0 D t [.ref (G 0), .int a2, .int a3, .int a4, .int a5] (GW G t μ) (GL G) sz) (QM none D (GW G t (g_names' (g_tc' (g_paved' μ res.1) res.2.1) res.2.2)) (GL G) sz) 0 0 (OA (GL G) sz) := by
  refine Met.ofW (cc := cX1_paveSquare) (maxL := 15) (ret := none) (by decide) rfl ?_
  intro p e s m args below meth c s₁ Bo hml hv
  obtain ⟨rfl, hC, hsz, hP, hD, hZ⟩ := hv
  have hx := Bo.exec
  have hb := Bo.bytes
  have hr := Bo.returns
  have hts : ∀ w ∈ LA, w.before _ s = true := fun w hw => atoms_spec (ws := ws_ yX1_paveSquare cX1_paveSquare 15 none) Bo.pre w (List.mem_cons_of_mem _ hw)
  have hown : s.vm.findClass RX1 = some m.cls := findClass_of_methodNamed Bo.named
  have hlocks := Bo.notSynchronized
  have hK := hC.1
  subst hsz
  have hl := lv_entry ([.ref (G 0), .int a2, .int a3, .int a4, .int a5]) (n := 15) (Nat.le_of_ble_eq_true rfl)
  rw [lg_entry_eq]
  generalize (lg_sl ([.ref (G 0), .int a2, .int a3, .int a4, .int a5]) ++ List.replicate (15 - (lg_sl ([.ref (G 0), .int a2, .int a3, .int a4, .int a5])).length) Slot.unset).toArray = ls at hl ⊢
  have hl : lv_has ls 15 [(0, .ref (G 0)), (1, .int a2), (2, .int a3), (3, .int a4), (4, .int a5)] := hl
  suffices K9 : ∀ (H : Heap) (locs : List Loc), va_P D vwCl (GW G t μ) H → va_S (OA (GL G) s.heap.size) s.heap H locs → W p l e (headSpec (ws_ yX1_paveSquare cX1_paveSquare 15 none) rm_X1_paveSquare_2).room s m ([.ref (G 0), .int a2, .int a3, .int a4, .int a5] : List Value).toArray below meth c H locs 0 0 (MQ below (QM none D (GW G t (g_names' (g_tc' (g_paved' μ res.1) res.2.1) res.2.2)) (GL G) s.heap.size) ([.ref (G 0), .int a2, .int a3, .int a4, .int a5] : List Value).toArray s 0 0 (OA (GL G) s.heap.size)) (F0 m 0 ls []) from K9 s.heap [] hP va_S.rf
  intro H locs hP hS
  have hSz : s.heap.size ≤ H.size := hS.1
  unfold f_X1_paveSquare_2 at h
  refine lv_iload_n hx hb dX1_paveSquare_0 rfl (lv_at hl 3 rfl) ?_
  refine lv_iconst (v := (2)) hx hb dX1_paveSquare_1 (by decide) ?_
  refine lv_icmp_lt (tgt := 11) hx hb dX1_paveSquare_2 (by decide) (fun hc => ?_) (fun hc => ?_)
  · have h := iteT hc h
    obtain rfl := Option.some.inj h
    exact W.vret hx hb hr (fun t ht hW => ⟨rfl, by rw [ht]; exact hP, hD, hS.F ht⟩) hS.2.2 dX1_paveSquare_11
  · have h := iteF hc h
    refine lv_iload_n hx hb dX1_paveSquare_5 rfl (lv_at hl 3 rfl) ?_
    refine lv_bipush (v := (8)) hx hb dX1_paveSquare_6 (by decide) ?_
    refine lv_icmp_le (tgt := 12) hx hb dX1_paveSquare_8 (by decide) (fun hc => ?_) (fun hc => ?_)
    · have h := iteT hc h
      refine lv_iload_n hx hb dX1_paveSquare_12 rfl (lv_at hl 3 rfl) ?_
      refine lv_iconst (v := (2)) hx hb dX1_paveSquare_13 (by decide) ?_
      refine lv_idiv hx hb dX1_paveSquare_14 (by decide) ?_
      obtain ⟨x1, ex1, h⟩ := jlet_some h
      refine topI ex1 ?_
      refine lv_istore (lv' := [(5, .int x1), (0, .ref (G 0)), (1, .int a2), (2, .int a3), (3, .int a4), (4, .int a5)]) hx hb dX1_paveSquare_15 hl (by decide) rfl (fun ls hl => ?_)
      refine lv_iload hx hb dX1_paveSquare_17 (lv_at hl 5 rfl) ?_
      refine lv_bipush (v := (8)) hx hb dX1_paveSquare_19 (by decide) ?_
      refine lv_irem hx hb dX1_paveSquare_21 (by decide) ?_
      refine lv_iload_n hx hb dX1_paveSquare_22 rfl (lv_at hl 2 rfl) ?_
      refine lv_iload hx hb dX1_paveSquare_23 (lv_at hl 0 rfl) ?_
      refine lv_iadd hx hb dX1_paveSquare_25 ?_
      obtain ⟨o2, eo2, h⟩ := obind h
      have hJ34_o2 : ∀ (ls : Array Slot) (H : Heap) (locs : List Loc), lv_has ls 15 [(0, .ref (G 0)), (1, .int a2), (2, .int a3), (4, .int a5), (5, .int x1)] → va_P D vwCl (GW G t μ) H → va_D (OA (GL G) s.heap.size) (GW G t μ) → va_S (OA (GL G) s.heap.size) s.heap H locs → W p l e (headSpec (ws_ yX1_paveSquare cX1_paveSquare 15 none) rm_X1_paveSquare_2).room s m ([.ref (G 0), .int a2, .int a3, .int a4, .int a5] : List Value).toArray below meth c H locs 0 0 (MQ below (QM none D (GW G t (g_names' (g_tc' (g_paved' μ res.1) res.2.1) res.2.2)) (GL G) s.heap.size) ([.ref (G 0), .int a2, .int a3, .int a4, .int a5] : List Value).toArray s 0 0 (OA (GL G) s.heap.size)) (F0 m 34 ls [.int o2]) := by
        intro ls H locs hl hP hD hS
        have hSz : s.heap.size ≤ H.size := hS.1
        refine lv_istore (lv' := [(6, .int o2), (0, .ref (G 0)), (1, .int a2), (2, .int a3), (4, .int a5), (5, .int x1)]) hx hb dX1_paveSquare_34 hl (by decide) rfl (fun ls hl => ?_)
        refine lv_iload hx hb dX1_paveSquare_36 (lv_at hl 4 rfl) ?_
        refine lv_bipush (v := (8)) hx hb dX1_paveSquare_38 (by decide) ?_
        refine lv_idiv hx hb dX1_paveSquare_40 (by decide) ?_
        refine lv_iload_n hx hb dX1_paveSquare_41 rfl (lv_at hl 3 rfl) ?_
        refine lv_iload hx hb dX1_paveSquare_42 (lv_at hl 5 rfl) ?_
        refine lv_iadd hx hb dX1_paveSquare_44 ?_
        obtain ⟨o3, eo3, h⟩ := obind h
        have hJ53_o3 : ∀ (ls : Array Slot) (H : Heap) (locs : List Loc), lv_has ls 15 [(0, .ref (G 0)), (1, .int a2), (2, .int a3), (4, .int a5), (5, .int x1), (6, .int o2)] → va_P D vwCl (GW G t μ) H → va_D (OA (GL G) s.heap.size) (GW G t μ) → va_S (OA (GL G) s.heap.size) s.heap H locs → W p l e (headSpec (ws_ yX1_paveSquare cX1_paveSquare 15 none) rm_X1_paveSquare_2).room s m ([.ref (G 0), .int a2, .int a3, .int a4, .int a5] : List Value).toArray below meth c H locs 0 0 (MQ below (QM none D (GW G t (g_names' (g_tc' (g_paved' μ res.1) res.2.1) res.2.2)) (GL G) s.heap.size) ([.ref (G 0), .int a2, .int a3, .int a4, .int a5] : List Value).toArray s 0 0 (OA (GL G) s.heap.size)) (F0 m 53 ls [.int o3]) := by
          intro ls H locs hl hP hD hS
          have hSz : s.heap.size ≤ H.size := hS.1
          refine lv_istore (lv' := [(7, .int o3), (0, .ref (G 0)), (1, .int a2), (2, .int a3), (4, .int a5), (5, .int x1), (6, .int o2)]) hx hb dX1_paveSquare_53 hl (by decide) rfl (fun ls hl => ?_)
          refine lv_iload_n hx hb dX1_paveSquare_55 rfl (lv_at hl 2 rfl) ?_
          refine lv_iload hx hb dX1_paveSquare_56 (lv_at hl 5 rfl) ?_
          refine lv_iadd hx hb dX1_paveSquare_58 ?_
          refine lv_iconst (v := (1)) hx hb dX1_paveSquare_59 (by decide) ?_
          refine lv_isub hx hb dX1_paveSquare_60 ?_
          obtain ⟨x4, ex4, h⟩ := jlet_some h
          refine topI ex4 ?_
          refine lv_istore (lv' := [(8, .int x4), (7, .int o3), (0, .ref (G 0)), (1, .int a2), (2, .int a3), (4, .int a5), (5, .int x1), (6, .int o2)]) hx hb dX1_paveSquare_61 hl (by decide) rfl (fun ls hl => ?_)
          refine lv_iload_n hx hb dX1_paveSquare_63 rfl (lv_at hl 4 rfl) ?_
          refine lv_iload hx hb dX1_paveSquare_64 (lv_at hl 6 rfl) ?_
          refine lv_iadd hx hb dX1_paveSquare_66 ?_
          refine lv_iconst (v := (1)) hx hb dX1_paveSquare_67 (by decide) ?_
          refine lv_isub hx hb dX1_paveSquare_68 ?_
          obtain ⟨x5, ex5, h⟩ := jlet_some h
          refine topI ex5 ?_
          refine lv_istore (lv' := [(9, .int x5), (8, .int x4), (7, .int o3), (0, .ref (G 0)), (1, .int a2), (2, .int a3), (4, .int a5), (5, .int x1), (6, .int o2)]) hx hb dX1_paveSquare_69 hl (by decide) rfl (fun ls hl => ?_)
          refine lv_aload_n hx hb dX1_paveSquare_71 rfl (lv_at hl 3 rfl) ?_
          refine lv_iload hx hb dX1_paveSquare_72 (lv_at hl 1 rfl) ?_
          refine lv_iload hx hb dX1_paveSquare_74 (lv_at hl 0 rfl) ?_
          refine lv_iload hx hb dX1_paveSquare_76 (lv_at hl 8 rfl) ?_
          refine lv_iload hx hb dX1_paveSquare_78 (lv_at hl 2 rfl) ?_
          obtain ⟨r6, er6, h⟩ := obind h
          refine call_R (va_runS (As := [.int o2, .int o3]) (rest := [.int x5, .int x4, .ref (G 0)]) ⟨hx, hb, hml, hown, hts⟩ (c_X1_quarterTurn l z0 D t o2 o3 _ er6) (kS hts qw858 qw859 qw8 qw860 ok_X1_quarterTurn ⟨Nat.le_of_ble_eq_true rfl, Nat.le_of_ble_eq_true rfl⟩) ⟨PR.blind, fun U hU hW => ⟨rfl, by rw [hU]; exact (hC.at hS hZ).warm hW, by rw [hU]; exact va_P_nil⟩⟩ rfl rfl hl.1 rfl (lv_room (Nat.le_of_ble_eq_true rfl)) dX1_paveSquare_80 ⟨Nat.le_of_ble_eq_true rfl, Nat.le_of_ble_eq_true rfl⟩) ?_
          obtain ⟨r7, er7, h⟩ := obind h
          refine call_M (va_runV (As := [.int x4, .int x5, .int r6]) (rest := []) ⟨hx, hb, hml, hown, hts⟩ (c_X1_putTriple l z0 D t G μ x4 x5 r6 _ H.size er7) (kV hts qw820 qw787 qw788 qw8 qw789 ok_X1_putTriple ⟨Nat.le_of_ble_eq_true rfl, Nat.le_of_ble_eq_true rfl⟩) ⟨PM.blind, va_recv hK hP (ci := 2) (q0 := 0) rfl rfl, fun U hU hW => ⟨rfl, by rw [hU]; exact (hC.at hS hZ).warm hW, by rw [hU], by rw [hU]; exact hP, ⟨hD.1, fun _ _ h9 => Or.inl (in_map (L := (GL G)) rfl h9)⟩, fun q hq => hZ q (OA.ofD hD rfl hSz q hq)⟩⟩ rfl rfl hl.1 rfl (lv_room (Nat.le_of_ble_eq_true rfl)) dX1_paveSquare_83 ⟨Nat.le_of_ble_eq_true rfl, Nat.le_of_ble_eq_true rfl⟩) hS (OA.ofD hD rfl hSz) (fun H locs hP hD1 hS _ _ => ?_)
          have hP : va_P D vwCl (GW G t (g_names' (g_tc' (g_paved' μ r7.1) r7.2.1) r7.2.2)) H := hP
          have hD : va_D (OA (GL G) s.heap.size) (GW G t (g_names' (g_tc' (g_paved' μ r7.1) r7.2.1) r7.2.2)) := hD1.weaken (fun _ q _ h9 => OA.ofD hD rfl hSz q.1 h9)
          have hSz : s.heap.size ≤ H.size := hS.1
          refine lv_iconst (v := (0)) hx hb dX1_paveSquare_86 (by decide) ?_
          refine lv_istore (lv' := [(10, .int (0 : Int32)), (9, .int x5), (8, .int x4), (7, .int o3), (0, .ref (G 0)), (1, .int a2), (2, .int a3), (4, .int a5), (5, .int x1), (6, .int o2)]) hx hb dX1_paveSquare_87 hl (by decide) rfl (fun ls hl => ?_)
          obtain ⟨o30, eo30, h⟩ := obind h
          have hL89 : ∀ (n : Nat) (y10_89 : Int32) (paved_89 : Int64) (tc_89 : Int32) (names_89 : Nat → Int32) (o30 : (Int64) × (Int32) × (Nat → Int32)), f_X1_paveSquare_2_L89 a2 a3 a5 μ x1 o2 o3 x4 x5 n y10_89 paved_89 tc_89 names_89 = some o30 → (∀ (ls : Array Slot) (H : Heap) (locs : List Loc), lv_has ls 15 [] → va_P D vwCl (GW G t (g_names' (g_tc' (g_paved' μ o30.1) o30.2.1) o30.2.2)) H → va_D (OA (GL G) s.heap.size) (GW G t (g_names' (g_tc' (g_paved' μ o30.1) o30.2.1) o30.2.2)) → va_S (OA (GL G) s.heap.size) s.heap H locs → W p l e (headSpec (ws_ yX1_paveSquare cX1_paveSquare 15 none) rm_X1_paveSquare_2).room s m ([.ref (G 0), .int a2, .int a3, .int a4, .int a5] : List Value).toArray below meth c H locs 0 0 (MQ below (QM none D (GW G t (g_names' (g_tc' (g_paved' μ res.1) res.2.1) res.2.2)) (GL G) s.heap.size) ([.ref (G 0), .int a2, .int a3, .int a4, .int a5] : List Value).toArray s 0 0 (OA (GL G) s.heap.size)) (F0 m 199 ls [])) → ∀ (ls : Array Slot) (H : Heap) (locs : List Loc), lv_has ls 15 [(0, .ref (G 0)), (1, .int a2), (2, .int a3), (4, .int a5), (5, .int x1), (6, .int o2), (7, .int o3), (8, .int x4), (9, .int x5), (10, .int y10_89)] → va_P D vwCl (GW G t (g_names' (g_tc' (g_paved' μ paved_89) tc_89) names_89)) H → va_D (OA (GL G) s.heap.size) (GW G t (g_names' (g_tc' (g_paved' μ paved_89) tc_89) names_89)) → va_S (OA (GL G) s.heap.size) s.heap H locs → W p l e (headSpec (ws_ yX1_paveSquare cX1_paveSquare 15 none) rm_X1_paveSquare_2).room s m ([.ref (G 0), .int a2, .int a3, .int a4, .int a5] : List Value).toArray below meth c H locs 0 0 (MQ below (QM none D (GW G t (g_names' (g_tc' (g_paved' μ res.1) res.2.1) res.2.2)) (GL G) s.heap.size) ([.ref (G 0), .int a2, .int a3, .int a4, .int a5] : List Value).toArray s 0 0 (OA (GL G) s.heap.size)) (F0 m 89 ls []) := by
            intro n
            induction n with
            | zero => intro y10_89 paved_89 tc_89 names_89 o30 h; exact absurd h (fun z => by cases z)
            | succ n ih =>
              intro y10_89 paved_89 tc_89 names_89 o30 h hK89 ls H locs hl hP hD hS
              replace h : f_X1_paveSquare_2_L89_b a2 a3 a5 μ x1 o2 o3 x4 x5 (f_X1_paveSquare_2_L89 a2 a3 a5 μ x1 o2 o3 x4 x5 n) y10_89 paved_89 tc_89 names_89 = some o30 := h
              unfold f_X1_paveSquare_2_L89_b at h
              have hSz : s.heap.size ≤ H.size := hS.1
              refine lv_iload hx hb dX1_paveSquare_89 (lv_at hl 9 rfl) ?_
              refine lv_iconst (v := (4)) hx hb dX1_paveSquare_91 (by decide) ?_
              refine lv_icmp_ge (tgt := 199) hx hb dX1_paveSquare_92 (by decide) (fun hc => ?_) (fun hc => ?_)
              · have h := iteT hc h
                obtain rfl := Option.some.inj h
                exact hK89 ls H locs (lv_sub hl [] rfl) hP hD hS
              · have h := iteF hc h
                refine lv_iload hx hb dX1_paveSquare_95 (lv_at hl 9 rfl) ?_
                refine lv_iconst (v := (2)) hx hb dX1_paveSquare_97 (by decide) ?_
                refine lv_irem hx hb dX1_paveSquare_98 (by decide) ?_
                obtain ⟨x31, ex31, h⟩ := jlet_some h
                refine topI ex31 ?_
                refine lv_istore (lv' := [(11, .int x31), (0, .ref (G 0)), (1, .int a2), (2, .int a3), (4, .int a5), (5, .int x1), (6, .int o2), (7, .int o3), (8, .int x4), (9, .int x5), (10, .int y10_89)]) hx hb dX1_paveSquare_99 hl (by decide) rfl (fun ls hl => ?_)
                refine lv_iload hx hb dX1_paveSquare_101 (lv_at hl 10 rfl) ?_
                refine lv_iconst (v := (2)) hx hb dX1_paveSquare_103 (by decide) ?_
                refine lv_idiv hx hb dX1_paveSquare_104 (by decide) ?_
                obtain ⟨x32, ex32, h⟩ := jlet_some h
                refine topI ex32 ?_
                refine lv_istore (lv' := [(12, .int x32), (11, .int x31), (0, .ref (G 0)), (1, .int a2), (2, .int a3), (4, .int a5), (5, .int x1), (6, .int o2), (7, .int o3), (8, .int x4), (9, .int x5), (10, .int y10_89)]) hx hb dX1_paveSquare_105 hl (by decide) rfl (fun ls hl => ?_)
                refine lv_iload hx hb dX1_paveSquare_107 (lv_at hl 7 rfl) ?_
                refine lv_iload hx hb dX1_paveSquare_109 (lv_at hl 1 rfl) ?_
                refine lv_iconst (v := (1)) hx hb dX1_paveSquare_111 (by decide) ?_
                obtain ⟨o33, eo33, h⟩ := obind h
                have hJ120_o33 : ∀ (ls : Array Slot) (H : Heap) (locs : List Loc), lv_has ls 15 [(0, .ref (G 0)), (1, .int a2), (2, .int a3), (4, .int a5), (5, .int x1), (6, .int o2), (7, .int o3), (8, .int x4), (9, .int x5), (10, .int y10_89), (11, .int x31), (12, .int x32)] → va_P D vwCl (GW G t (g_names' (g_tc' (g_paved' μ paved_89) tc_89) names_89)) H → va_D (OA (GL G) s.heap.size) (GW G t (g_names' (g_tc' (g_paved' μ paved_89) tc_89) names_89)) → va_S (OA (GL G) s.heap.size) s.heap H locs → W p l e (headSpec (ws_ yX1_paveSquare cX1_paveSquare 15 none) rm_X1_paveSquare_2).room s m ([.ref (G 0), .int a2, .int a3, .int a4, .int a5] : List Value).toArray below meth c H locs 0 0 (MQ below (QM none D (GW G t (g_names' (g_tc' (g_paved' μ res.1) res.2.1) res.2.2)) (GL G) s.heap.size) ([.ref (G 0), .int a2, .int a3, .int a4, .int a5] : List Value).toArray s 0 0 (OA (GL G) s.heap.size)) (F0 m 120 ls [.int o33, .int o2]) := by
                  intro ls H locs hl hP hD hS
                  have hSz : s.heap.size ≤ H.size := hS.1
                  obtain ⟨o35, eo35, h⟩ := obind h
                  have hJ144_o35 : ∀ (ls : Array Slot) (H : Heap) (locs : List Loc), lv_has ls 15 [(0, .ref (G 0)), (1, .int a2), (2, .int a3), (4, .int a5), (5, .int x1), (6, .int o2), (7, .int o3), (8, .int x4), (9, .int x5), (10, .int y10_89), (11, .int x31), (12, .int x32)] → va_P D vwCl (GW G t (g_names' (g_tc' (g_paved' μ paved_89) tc_89) names_89)) H → va_D (OA (GL G) s.heap.size) (GW G t (g_names' (g_tc' (g_paved' μ paved_89) tc_89) names_89)) → va_S (OA (GL G) s.heap.size) s.heap H locs → W p l e (headSpec (ws_ yX1_paveSquare cX1_paveSquare 15 none) rm_X1_paveSquare_2).room s m ([.ref (G 0), .int a2, .int a3, .int a4, .int a5] : List Value).toArray below meth c H locs 0 0 (MQ below (QM none D (GW G t (g_names' (g_tc' (g_paved' μ res.1) res.2.1) res.2.2)) (GL G) s.heap.size) ([.ref (G 0), .int a2, .int a3, .int a4, .int a5] : List Value).toArray s 0 0 (OA (GL G) s.heap.size)) (F0 m 144 ls [.int o35]) := by
                    intro ls H locs hl hP hD hS
                    have hSz : s.heap.size ≤ H.size := hS.1
                    refine lv_istore (lv' := [(13, .int o35), (0, .ref (G 0)), (1, .int a2), (2, .int a3), (4, .int a5), (5, .int x1), (6, .int o2), (7, .int o3), (8, .int x4), (9, .int x5), (10, .int y10_89), (11, .int x31), (12, .int x32)]) hx hb dX1_paveSquare_144 hl (by decide) rfl (fun ls hl => ?_)
                    refine lv_iload hx hb dX1_paveSquare_146 (lv_at hl 0 rfl) ?_
                    obtain ⟨o38, eo38, h⟩ := obind h
                    have hJ169_o38 : ∀ (ls : Array Slot) (H : Heap) (locs : List Loc), lv_has ls 15 [(0, .ref (G 0)), (1, .int a2), (2, .int a3), (4, .int a5), (5, .int x1), (6, .int o2), (7, .int o3), (8, .int x4), (9, .int x5), (10, .int y10_89), (11, .int x31), (12, .int x32)] → va_P D vwCl (GW G t (g_names' (g_tc' (g_paved' μ paved_89) tc_89) names_89)) H → va_D (OA (GL G) s.heap.size) (GW G t (g_names' (g_tc' (g_paved' μ paved_89) tc_89) names_89)) → va_S (OA (GL G) s.heap.size) s.heap H locs → W p l e (headSpec (ws_ yX1_paveSquare cX1_paveSquare 15 none) rm_X1_paveSquare_2).room s m ([.ref (G 0), .int a2, .int a3, .int a4, .int a5] : List Value).toArray below meth c H locs 0 0 (MQ below (QM none D (GW G t (g_names' (g_tc' (g_paved' μ res.1) res.2.1) res.2.2)) (GL G) s.heap.size) ([.ref (G 0), .int a2, .int a3, .int a4, .int a5] : List Value).toArray s 0 0 (OA (GL G) s.heap.size)) (F0 m 169 ls [.int o38]) := by
                      intro ls H locs hl hP hD hS
                      have hSz : s.heap.size ≤ H.size := hS.1
                      refine lv_istore (lv' := [(14, .int o38), (0, .ref (G 0)), (1, .int a2), (2, .int a3), (4, .int a5), (5, .int x1), (6, .int o2), (7, .int o3), (8, .int x4), (9, .int x5), (10, .int y10_89), (11, .int x31), (12, .int x32)]) hx hb dX1_paveSquare_169 hl (by decide) rfl (fun ls hl => ?_)
                      refine lv_aload_n hx hb dX1_paveSquare_171 rfl (lv_at hl 1 rfl) ?_
                      refine lv_iload_n hx hb dX1_paveSquare_172 rfl (lv_at hl 2 rfl) ?_
                      refine lv_iload hx hb dX1_paveSquare_173 (lv_at hl 5 rfl) ?_
                      refine lv_iload hx hb dX1_paveSquare_175 (lv_at hl 11 rfl) ?_
                      refine lv_imul hx hb dX1_paveSquare_177 ?_
                      refine lv_iadd hx hb dX1_paveSquare_178 ?_
                      refine lv_iload_n hx hb dX1_paveSquare_179 rfl (lv_at hl 3 rfl) ?_
                      refine lv_iload hx hb dX1_paveSquare_180 (lv_at hl 5 rfl) ?_
                      refine lv_iload hx hb dX1_paveSquare_182 (lv_at hl 12 rfl) ?_
                      refine lv_imul hx hb dX1_paveSquare_184 ?_
                      refine lv_iadd hx hb dX1_paveSquare_185 ?_
                      refine lv_iload hx hb dX1_paveSquare_186 (lv_at hl 5 rfl) ?_
                      refine lv_iload hx hb dX1_paveSquare_188 (lv_at hl 0 rfl) ?_
                      obtain ⟨r40, er40, h⟩ := obind h
                      refine call_M (va_runS (As := [.ref (G 0), .int (a2 + (x1 * x31)), .int (a3 + (x1 * x32)), .int x1, .int o38]) (rest := []) ⟨hx, hb, hml, hown, hts⟩ (c_X1_paveSquare_1 l z0 D t G (g_names' (g_tc' (g_paved' μ paved_89) tc_89) names_89) (a2 + (x1 * x31)) (a3 + (x1 * x32)) x1 o38 _ H.size er40) (kS hts qw855 qw856 qw8 qw857 ok_X1_paveSquare_1 ⟨Nat.le_of_ble_eq_true rfl, Nat.le_of_ble_eq_true rfl⟩) ⟨PM.blind, fun U hU hW => ⟨rfl, by rw [hU]; exact (hC.at hS hZ).warm hW, by rw [hU], by rw [hU]; exact hP, ⟨hD.1, fun _ _ h9 => Or.inl (in_map (L := (GL G)) rfl h9)⟩, fun q hq => hZ q (OA.ofD hD rfl hSz q hq)⟩⟩ rfl rfl hl.1 rfl (lv_room (Nat.le_of_ble_eq_true rfl)) dX1_paveSquare_190 ⟨Nat.le_of_ble_eq_true rfl, Nat.le_of_ble_eq_true rfl⟩) hS (OA.ofD hD rfl hSz) (fun H locs hP hD1 hS _ _ => ?_)
                      have hP : va_P D vwCl (GW G t (g_names' (g_tc' (g_paved' μ r40.1) r40.2.1) r40.2.2)) H := hP
                      have hD : va_D (OA (GL G) s.heap.size) (GW G t (g_names' (g_tc' (g_paved' μ r40.1) r40.2.1) r40.2.2)) := hD1.weaken (fun _ q _ h9 => OA.ofD hD rfl hSz q.1 h9)
                      have hSz : s.heap.size ≤ H.size := hS.1
                      obtain ⟨x41, ex41, h⟩ := jlet_some h
                      refine lv_iinc (v := x41) (lv' := [(10, .int x41), (14, .int o38), (0, .ref (G 0)), (1, .int a2), (2, .int a3), (4, .int a5), (5, .int x1), (6, .int o2), (7, .int o3), (8, .int x4), (9, .int x5), (11, .int x31), (12, .int x32)]) hx hb dX1_paveSquare_193 hl (k := 10) rfl (by rw [ex41]; rfl) (by decide) rfl (fun ls hl => ?_)
                      refine lv_goto (tgt := 89) hx hb dX1_paveSquare_196 (by decide) ?_
                      exact ih _ _ _ _ _ h hK89 ls H locs (lv_sub hl [2, 3, 4, 5, 6, 7, 8, 9, 10, 0] rfl) hP hD hS
                    have h := eo38
                    clear eo38
                    refine lv_if_eq (tgt := 156) hx hb dX1_paveSquare_148 (by decide) (fun hc => ?_) (fun hc => ?_)
                    · have h := iteT hc h
                      refine lv_iload hx hb dX1_paveSquare_156 (lv_at hl 8 rfl) ?_
                      refine lv_iload hx hb dX1_paveSquare_158 (lv_at hl 11 rfl) ?_
                      refine lv_iadd hx hb dX1_paveSquare_160 ?_
                      refine lv_iload hx hb dX1_paveSquare_161 (lv_at hl 9 rfl) ?_
                      refine lv_iload hx hb dX1_paveSquare_163 (lv_at hl 12 rfl) ?_
                      refine lv_iadd hx hb dX1_paveSquare_165 ?_
                      obtain ⟨r39, er39, h⟩ := obind h
                      refine call_R (va_runSN (As := [.int (x4 + x31), .int (x5 + x32)]) (rest := []) ⟨hx, hb, hml, hown, hts⟩ (c_X4_placeOf l z0 D t (x4 + x31) (x5 + x32) _ er39) ⟨kN hts (hC.2.1 _ qw249) qw1 qw233 ok_X4_placeOf ⟨Nat.le_of_ble_eq_true rfl, Nat.le_of_ble_eq_true rfl⟩, hts _ qw232, trivial⟩ ⟨PR.blind, fun U hU hW => ⟨rfl, by rw [hU]; exact (hC.at hS hZ).warm hW, by rw [hU]; exact va_P_nil⟩⟩ rfl rfl hl.1 rfl (lv_room (Nat.le_of_ble_eq_true rfl)) dX1_paveSquare_166 ⟨Nat.le_of_ble_eq_true rfl, Nat.le_of_ble_eq_true rfl⟩) ?_
                      obtain rfl := Option.some.inj h
                      exact hJ169_o38 ls H locs (lv_sub hl [1, 2, 3, 4, 5, 6, 7, 8, 9, 10, 11, 12] rfl) hP hD hS
                    · have h := iteF hc h
                      refine lv_iload hx hb dX1_paveSquare_151 (lv_at hl 4 rfl) ?_
                      refine lv_goto (tgt := 169) hx hb dX1_paveSquare_153 (by decide) ?_
                      obtain rfl := Option.some.inj h
                      exact hJ169_o38 ls H locs (lv_sub hl [1, 2, 3, 4, 5, 6, 7, 8, 9, 10, 11, 12] rfl) hP hD hS
                  have h := eo35
                  clear eo35
                  refine lv_icmp_ne (tgt := 143) hx hb dX1_paveSquare_120 (by decide) (fun hc => ?_) (fun hc => ?_)
                  · have h := iteF hc h
                    refine lv_iconst (v := (0)) hx hb dX1_paveSquare_143 (by decide) ?_
                    obtain rfl := Option.some.inj h
                    exact hJ144_o35 ls H locs (lv_sub hl [0, 1, 2, 3, 4, 5, 6, 7, 8, 9, 10, 11] rfl) hP hD hS
                  · have h := iteT hc h
                    refine lv_iload hx hb dX1_paveSquare_123 (lv_at hl 6 rfl) ?_
                    refine lv_iload hx hb dX1_paveSquare_125 (lv_at hl 11 rfl) ?_
                    refine lv_iconst (v := (1)) hx hb dX1_paveSquare_127 (by decide) ?_
                    obtain ⟨o36, eo36, h⟩ := obind h
                    have hJ136_o36 : ∀ (ls : Array Slot) (H : Heap) (locs : List Loc), lv_has ls 15 [(0, .ref (G 0)), (1, .int a2), (2, .int a3), (4, .int a5), (5, .int x1), (6, .int o2), (7, .int o3), (8, .int x4), (9, .int x5), (10, .int y10_89), (11, .int x31), (12, .int x32)] → va_P D vwCl (GW G t (g_names' (g_tc' (g_paved' μ paved_89) tc_89) names_89)) H → va_D (OA (GL G) s.heap.size) (GW G t (g_names' (g_tc' (g_paved' μ paved_89) tc_89) names_89)) → va_S (OA (GL G) s.heap.size) s.heap H locs → W p l e (headSpec (ws_ yX1_paveSquare cX1_paveSquare 15 none) rm_X1_paveSquare_2).room s m ([.ref (G 0), .int a2, .int a3, .int a4, .int a5] : List Value).toArray below meth c H locs 0 0 (MQ below (QM none D (GW G t (g_names' (g_tc' (g_paved' μ res.1) res.2.1) res.2.2)) (GL G) s.heap.size) ([.ref (G 0), .int a2, .int a3, .int a4, .int a5] : List Value).toArray s 0 0 (OA (GL G) s.heap.size)) (F0 m 136 ls [.int o36, .int o3]) := by
                      intro ls H locs hl hP hD hS
                      have hSz : s.heap.size ≤ H.size := hS.1
                      refine lv_icmp_ne (tgt := 143) hx hb dX1_paveSquare_136 (by decide) (fun hc => ?_) (fun hc => ?_)
                      · have h := iteF hc h
                        refine lv_iconst (v := (0)) hx hb dX1_paveSquare_143 (by decide) ?_
                        obtain rfl := Option.some.inj h
                        exact hJ144_o35 ls H locs (lv_sub hl [0, 1, 2, 3, 4, 5, 6, 7, 8, 9, 10, 11] rfl) hP hD hS
                      · have h := iteT hc h
                        refine lv_iconst (v := (1)) hx hb dX1_paveSquare_139 (by decide) ?_
                        refine lv_goto (tgt := 144) hx hb dX1_paveSquare_140 (by decide) ?_
                        obtain rfl := Option.some.inj h
                        exact hJ144_o35 ls H locs (lv_sub hl [0, 1, 2, 3, 4, 5, 6, 7, 8, 9, 10, 11] rfl) hP hD hS
                    have h := eo36
                    clear eo36
                    refine lv_icmp_ne (tgt := 135) hx hb dX1_paveSquare_128 (by decide) (fun hc => ?_) (fun hc => ?_)
                    · have h := iteF hc h
                      refine lv_iconst (v := (0)) hx hb dX1_paveSquare_135 (by decide) ?_
                      obtain rfl := Option.some.inj h
                      exact hJ136_o36 ls H locs (lv_sub hl [0, 1, 2, 3, 4, 5, 6, 7, 8, 9, 10, 11] rfl) hP hD hS
                    · have h := iteT hc h
                      refine lv_iconst (v := (1)) hx hb dX1_paveSquare_131 (by decide) ?_
                      refine lv_goto (tgt := 136) hx hb dX1_paveSquare_132 (by decide) ?_
                      obtain rfl := Option.some.inj h
                      exact hJ136_o36 ls H locs (lv_sub hl [0, 1, 2, 3, 4, 5, 6, 7, 8, 9, 10, 11] rfl) hP hD hS
                have h := eo33
                clear eo33
                refine lv_icmp_ne (tgt := 119) hx hb dX1_paveSquare_112 (by decide) (fun hc => ?_) (fun hc => ?_)
                · have h := iteF hc h
                  refine lv_iconst (v := (0)) hx hb dX1_paveSquare_119 (by decide) ?_
                  obtain rfl := Option.some.inj h
                  exact hJ120_o33 ls H locs (lv_sub hl [2, 3, 4, 5, 6, 7, 8, 9, 10, 11, 1, 0] rfl) hP hD hS
                · have h := iteT hc h
                  refine lv_iconst (v := (1)) hx hb dX1_paveSquare_115 (by decide) ?_
                  refine lv_goto (tgt := 120) hx hb dX1_paveSquare_116 (by decide) ?_
                  obtain rfl := Option.some.inj h
                  exact hJ120_o33 ls H locs (lv_sub hl [2, 3, 4, 5, 6, 7, 8, 9, 10, 11, 1, 0] rfl) hP hD hS
          refine hL89 _ _ _ _ _ _ eo30 (fun ls H locs hl hP hD hS => ?_) ls H locs (lv_sub hl [4, 5, 6, 7, 8, 9, 3, 2, 1, 0] rfl) hP hD hS
          have hSz : s.heap.size ≤ H.size := hS.1
          obtain rfl := Option.some.inj h
          exact W.vret hx hb hr (fun t ht hW => ⟨rfl, by rw [ht]; exact hP, hD, hS.F ht⟩) hS.2.2 dX1_paveSquare_199
        have h := eo3
        clear eo3
        refine lv_icmp_lt (tgt := 52) hx hb dX1_paveSquare_45 (by decide) (fun hc => ?_) (fun hc => ?_)
        · have h := iteT hc h
          refine lv_iconst (v := (0)) hx hb dX1_paveSquare_52 (by decide) ?_
          obtain rfl := Option.some.inj h
          exact hJ53_o3 ls H locs (lv_sub hl [1, 2, 3, 4, 5, 0] rfl) hP hD hS
        · have h := iteF hc h
          refine lv_iconst (v := (1)) hx hb dX1_paveSquare_48 (by decide) ?_
          refine lv_goto (tgt := 53) hx hb dX1_paveSquare_49 (by decide) ?_
          obtain rfl := Option.some.inj h
          exact hJ53_o3 ls H locs (lv_sub hl [1, 2, 3, 4, 5, 0] rfl) hP hD hS
      have h := eo2
      clear eo2
      refine lv_icmp_lt (tgt := 33) hx hb dX1_paveSquare_26 (by decide) (fun hc => ?_) (fun hc => ?_)
      · have h := iteT hc h
        refine lv_iconst (v := (0)) hx hb dX1_paveSquare_33 (by decide) ?_
        obtain rfl := Option.some.inj h
        exact hJ34_o2 ls H locs (lv_sub hl [1, 2, 3, 5, 0] rfl) hP hD hS
      · have h := iteF hc h
        refine lv_iconst (v := (1)) hx hb dX1_paveSquare_29 (by decide) ?_
        refine lv_goto (tgt := 34) hx hb dX1_paveSquare_30 (by decide) ?_
        obtain rfl := Option.some.inj h
        exact hJ34_o2 ls H locs (lv_sub hl [1, 2, 3, 5, 0] rfl) hP hD hS
    · have h := iteF hc h
      obtain rfl := Option.some.inj h
      exact W.vret hx hb hr (fun t ht hW => ⟨rfl, by rw [ht]; exact hP, hD, hS.F ht⟩) hS.2.2 dX1_paveSquare_11
