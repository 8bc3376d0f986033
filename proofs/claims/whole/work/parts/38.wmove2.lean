abbrev rm_X4_flip : Room := { frames := 10, cells := 3, slots := 40, locals := 340 }
theorem ok_X4_flip : okY yX4_flip 3 := ⟨by decide +kernel, by decide +kernel, by decide +kernel⟩
set_option maxHeartbeats 4000000 in
set_option maxRecDepth 100000 in
theorem c_X4_flip (l : Launch) (z0 : Nat) (D : va_G) (t : Nat → ClassId) (x0 : Nat) (s0 : Nat) (s1 : Nat) (e0 : Nat) (E : Nat → Nat) (A : Nat → Nat) (B : Nat → Nat) (G : Nat → Nat) (T : va_W) (μ : XS) (a1 : Int32) (a2 : Int32) (a3 : Int32) (res : Int32 × (Int64) × (Int32) × (Int32) × (Nat → Int32) × (Int32) × (Int32)) (sz : Nat) (L : List GS) (S0 S1 : Option GS) (hRep : Rep t e0 T L (x_sl μ) S0 S1) (hnL : x_lsize μ = nI L.length) (h : f_X4_flip μ a1 a2 a3 = some (.inl res)) : Met l yX4_flip (ws_ yX4_flip cX4_flip 4 (some .int)) rm_X4_flip (PM z0 D t [.ref (x0), .int a1, .int a2, .int a3] (XW x0 s0 s1 e0 E A B G T t μ) (XL x0 s0 s1 e0 E A B G T μ) sz) (QS (some (.int res.1)) D (fun e T => (XW x0 s0 s1 e E A B G T t (x_length μ, x_codes μ, x_rest μ, x_takes μ, x_u1 μ, x_u2 μ, x_hsz μ, x_hwin μ, x_hway μ, x_nsz μ, x_nwin μ, x_nway μ, x_wide μ, x_high μ, x_pond μ, x_walls μ, res.2.1, res.2.2.1, res.2.2.2.1, x_refused μ, res.2.2.2.2.1, x_sl μ, res.2.2.2.2.2.1, res.2.2.2.2.2.2))) (fun e T => Rep t e T (svL L (gsX μ)) (x_sl μ) S0 S1) (XL x0 s0 s1 e0 E A B G T μ) sz) 3 40 (OA (XL x0 s0 s1 e0 E A B G T μ) sz) := by
  refine Met.ofW (cc := cX4_flip) (maxL := 4) (ret := (some .int)) (by decide) rfl ?_
  intro p e s m args below meth c s₁ Bo hml hv
  obtain ⟨rfl, hC, hsz, hP, hD, hZ⟩ := hv
  have hx := Bo.exec
  have hb := Bo.bytes
  have hr := Bo.returns
  have hts : ∀ w ∈ LA, w.before _ s = true := fun w hw => atoms_spec (ws := ws_ yX4_flip cX4_flip 4 (some .int)) Bo.pre w (List.mem_cons_of_mem _ hw)
  have hown : s.vm.findClass RX4 = some m.cls := findClass_of_methodNamed Bo.named
  have hlocks := Bo.notSynchronized
  have hK := hC.1
  subst hsz
  have hl := lv_entry ([.ref (x0), .int a1, .int a2, .int a3]) (n := 4) (Nat.le_of_ble_eq_true rfl)
  rw [lg_entry_eq]
  generalize (lg_sl ([.ref (x0), .int a1, .int a2, .int a3]) ++ List.replicate (4 - (lg_sl ([.ref (x0), .int a1, .int a2, .int a3])).length) Slot.unset).toArray = ls at hl ⊢
  have hl : lv_has ls 4 [(0, .ref (x0)), (1, .int a1), (2, .int a2), (3, .int a3)] := hl
  suffices K9 : ∀ (H : Heap) (locs : List Loc), va_P D vwCl (XW x0 s0 s1 e0 E A B G T t μ) H → va_S (OA (XL x0 s0 s1 e0 E A B G T μ) s.heap.size) s.heap H locs → W p l e (headSpec (ws_ yX4_flip cX4_flip 4 (some .int)) rm_X4_flip).room s m ([.ref (x0), .int a1, .int a2, .int a3] : List Value).toArray below meth c H locs 0 0 (MQ below (QS (some (.int res.1)) D (fun e T => (XW x0 s0 s1 e E A B G T t (x_length μ, x_codes μ, x_rest μ, x_takes μ, x_u1 μ, x_u2 μ, x_hsz μ, x_hwin μ, x_hway μ, x_nsz μ, x_nwin μ, x_nway μ, x_wide μ, x_high μ, x_pond μ, x_walls μ, res.2.1, res.2.2.1, res.2.2.2.1, x_refused μ, res.2.2.2.2.1, x_sl μ, res.2.2.2.2.2.1, res.2.2.2.2.2.2))) (fun e T => Rep t e T (svL L (gsX μ)) (x_sl μ) S0 S1) (XL x0 s0 s1 e0 E A B G T μ) s.heap.size) ([.ref (x0), .int a1, .int a2, .int a3] : List Value).toArray s 3 40 (OA (XL x0 s0 s1 e0 E A B G T μ) s.heap.size)) (F0 m 0 ls []) from K9 s.heap [] hP va_S.rf
  intro H locs hP hS
  have hSz : s.heap.size ≤ H.size := hS.1
  unfold f_X4_flip at h
  refine lv_aload_n hx hb dX4_flip_0 rfl (lv_at hl 0 rfl) ?_
  refine va_get hx hb hts inX4 hown hK hP 0 rfl rfl 4 (by decide) (hts _ qw161) (fun _ h9 => h9) rfl dX4_flip_1 ?_
  refine lv_iload_n hx hb dX4_flip_4 rfl (lv_at hl 1 rfl) ?_
  refine lv_iload_n hx hb dX4_flip_5 rfl (lv_at hl 2 rfl) ?_
  refine lv_iload_n hx hb dX4_flip_6 rfl (lv_at hl 3 rfl) ?_
  obtain ⟨r1, er1, h⟩ := obind h
  refine call_R (va_runV (As := [.int a1, .int a2, .int a3]) (rest := []) ⟨hx, hb, hml, hown, hts⟩ (c_X1_hasFlipBlock l z0 D t G ((x_wide μ), (x_high μ), (x_pond μ), (x_walls μ), (x_paved μ), (x_tc μ), (x_flips μ), (x_refused μ), (x_names μ)) a1 a2 a3 _ er1) (kV hts qw809 qw435 qw436 qw8 qw437 ok_X1_hasFlipBlock ⟨Nat.le_of_ble_eq_true rfl, Nat.le_of_ble_eq_true rfl⟩) ⟨PR.blind, va_recv hK (sub_X_G (μ := μ) hP) (ci := 2) (q0 := 0) rfl rfl, fun U hU hW => ⟨rfl, by rw [hU]; exact (hC.at hS hZ).warm hW, by rw [hU]; exact (sub_X_G (μ := μ) hP)⟩⟩ rfl rfl hl.1 rfl (lv_room (Nat.le_of_ble_eq_true rfl)) dX4_flip_7 ⟨Nat.le_of_ble_eq_true rfl, Nat.le_of_ble_eq_true rfl⟩) ?_
  refine lv_if_ne (tgt := 23) hx hb dX4_flip_10 (by decide) (fun hc => ?_) (fun hc => ?_)
  · have h := iteF hc h
    refine lv_aload_n hx hb dX4_flip_23 rfl (lv_at hl 0 rfl) ?_
    refine va_get hx hb hts inX4 hown hK hP 0 rfl rfl 4 (by decide) (hts _ qw161) (fun _ h9 => h9) rfl dX4_flip_24 ?_
    refine lv_iload_n hx hb dX4_flip_27 rfl (lv_at hl 1 rfl) ?_
    refine lv_iload_n hx hb dX4_flip_28 rfl (lv_at hl 2 rfl) ?_
    refine lv_iload_n hx hb dX4_flip_29 rfl (lv_at hl 3 rfl) ?_
    obtain ⟨r2, er2, h⟩ := obind h
    refine call_R (va_runV (As := [.int a1, .int a2, .int a3]) (rest := []) ⟨hx, hb, hml, hown, hts⟩ (c_X1_isFlippable l z0 D t G ((x_wide μ), (x_high μ), (x_pond μ), (x_walls μ), (x_paved μ), (x_tc μ), (x_flips μ), (x_refused μ), (x_names μ)) a1 a2 a3 _ er2) (kV hts qw811 qw439 qw440 qw8 qw441 ok_X1_isFlippable ⟨Nat.le_of_ble_eq_true rfl, Nat.le_of_ble_eq_true rfl⟩) ⟨PR.blind, va_recv hK (sub_X_G (μ := μ) hP) (ci := 2) (q0 := 0) rfl rfl, fun U hU hW => ⟨rfl, by rw [hU]; exact (hC.at hS hZ).warm hW, by rw [hU]; exact (sub_X_G (μ := μ) hP)⟩⟩ rfl rfl hl.1 rfl (lv_room (Nat.le_of_ble_eq_true rfl)) dX4_flip_30 ⟨Nat.le_of_ble_eq_true rfl, Nat.le_of_ble_eq_true rfl⟩) ?_
    refine lv_if_ne (tgt := 46) hx hb dX4_flip_33 (by decide) (fun hc => ?_) (fun hc => ?_)
    · have h := iteF hc h
      refine lv_aload_n hx hb dX4_flip_46 rfl (lv_at hl 0 rfl) ?_
      obtain ⟨r3, er3, h⟩ := obind h
      refine call_S (va_runV (As := []) (rest := []) ⟨hx, hb, hml, hown, hts⟩ (c_X4_saveState l z0 D t x0 s0 s1 e0 E A B G T μ L S0 S1 H.size hRep hnL) (kV hts qw662 qw664 qs23 qw1 qw665 ok_X4_saveState ⟨Nat.le_of_ble_eq_true rfl, Nat.le_of_ble_eq_true rfl⟩) ⟨PM.blind, va_recv hK hP (ci := 5) (q0 := 0) rfl rfl, fun U hU hW => ⟨rfl, by rw [hU]; exact (hC.at hS hZ).warm hW, by rw [hU], by rw [hU]; exact hP, ⟨hD.1, fun _ _ h9 => Or.inl (in_map (L := (XL x0 s0 s1 e0 E A B G T μ)) rfl h9)⟩, fun q hq => hZ q (OA.ofD hD rfl hSz q hq)⟩⟩ rfl rfl hl.1 rfl (lv_room (Nat.le_of_ble_eq_true rfl)) dX4_flip_47 ⟨Nat.le_of_ble_eq_true rfl, Nat.le_of_ble_eq_true rfl⟩) hS (OA.ofD hD rfl hSz) (fun e1 T1 H locs hRp hP hD1 hS _ _ => ?_)
      have hP : va_P D vwCl (XW x0 s0 s1 e1 E A B G T1 t (svX μ)) H := hP
      rw [svX_eq er3] at hP hD1
      have hP : va_P D vwCl (XW x0 s0 s1 e1 E A B G T1 t (x_lsize' (x_lmod' μ r3.1) r3.2)) H := hP
      have hD : va_D (OA (XL x0 s0 s1 e0 E A B G T μ) s.heap.size) (XW x0 s0 s1 e1 E A B G T1 t (x_lsize' (x_lmod' μ r3.1) r3.2)) := hD1.weaken (fun _ q _ h9 => OA.ofD hD rfl hSz q.1 h9)
      have hSz : s.heap.size ≤ H.size := hS.1
      refine W.widen (k := 3) (n := 40) (by omega) (by omega) ?_
      refine lv_aload_n hx hb dX4_flip_50 rfl (lv_at hl 0 rfl) ?_
      refine va_get hx hb hts inX4 hown hK hP 0 rfl rfl 4 (by decide) (hts _ qw161) (fun _ h9 => h9) rfl dX4_flip_51 ?_
      refine lv_iload_n hx hb dX4_flip_54 rfl (lv_at hl 1 rfl) ?_
      refine lv_iload_n hx hb dX4_flip_55 rfl (lv_at hl 2 rfl) ?_
      refine lv_iload_n hx hb dX4_flip_56 rfl (lv_at hl 3 rfl) ?_
      obtain ⟨r4, er4, h⟩ := obind h
      refine call_M (va_runV (As := [.int a1, .int a2, .int a3]) (rest := []) ⟨hx, hb, hml, hown, hts⟩ (c_X1_flipBlock l z0 D t G ((x_wide μ), (x_high μ), (x_pond μ), (x_walls μ), (x_paved μ), (x_tc μ), (x_flips μ), (x_refused μ), (x_names μ)) a1 a2 a3 _ H.size er4) (kV hts qw813 qw814 qw815 qw8 qw816 ok_X1_flipBlock ⟨Nat.le_of_ble_eq_true rfl, Nat.le_of_ble_eq_true rfl⟩) ⟨PM.blind, va_recv hK (sub_X_G (μ := x_lsize' (x_lmod' μ r3.1) r3.2) hP) (ci := 2) (q0 := 0) rfl rfl, fun U hU hW => ⟨rfl, by rw [hU]; exact (hC.at hS hZ).warm hW, by rw [hU], by rw [hU]; exact (sub_X_G (μ := x_lsize' (x_lmod' μ r3.1) r3.2) hP), ⟨(subD_X_G (μ := x_lsize' (x_lmod' μ r3.1) r3.2) hD).1, fun _ _ h9 => Or.inl (in_map (L := (GL G)) rfl h9)⟩, fun q hq => hZ q (OA.ofD (subD_X_G (μ := x_lsize' (x_lmod' μ r3.1) r3.2) hD) rfl hSz q hq)⟩⟩ rfl rfl hl.1 rfl (lv_room (Nat.le_of_ble_eq_true rfl)) dX4_flip_57 ⟨Nat.le_of_ble_eq_true rfl, Nat.le_of_ble_eq_true rfl⟩) hS (OA.ofD (subD_X_G (μ := x_lsize' (x_lmod' μ r3.1) r3.2) hD) rfl hSz) (fun H locs hP1 hD1 hS _ hk1 => ?_)
      obtain ⟨hP, hD⟩ := back_X_G (μ := x_lsize' (x_lmod' μ r3.1) r3.2) hP hD hk1 hP1
      have hP : va_P D vwCl (XW x0 s0 s1 e1 E A B G T1 t (x_length μ, x_codes μ, x_rest μ, x_takes μ, x_u1 μ, x_u2 μ, x_hsz μ, x_hwin μ, x_hway μ, x_nsz μ, x_nwin μ, x_nway μ, x_wide μ, x_high μ, x_pond μ, x_walls μ, r4.1, r4.2.1, r4.2.2.1, x_refused μ, r4.2.2.2, x_sl μ, r3.1, r3.2)) H := hP
      have hD : va_D (OA (XL x0 s0 s1 e0 E A B G T μ) s.heap.size) (XW x0 s0 s1 e1 E A B G T1 t (x_length μ, x_codes μ, x_rest μ, x_takes μ, x_u1 μ, x_u2 μ, x_hsz μ, x_hwin μ, x_hway μ, x_nsz μ, x_nwin μ, x_nway μ, x_wide μ, x_high μ, x_pond μ, x_walls μ, r4.1, r4.2.1, r4.2.2.1, x_refused μ, r4.2.2.2, x_sl μ, r3.1, r3.2)) := hD
      have hSz : s.heap.size ≤ H.size := hS.1
      refine lv_aload_n hx hb dX4_flip_60 rfl (lv_at hl 0 rfl) ?_
      refine va_get hx hb hts inX4 hown hK hP 0 rfl rfl 4 (by decide) (hts _ qw161) (fun _ h9 => h9) rfl dX4_flip_61 ?_
      refine va_get hx hb hts inX1 hown hK hP 13 rfl rfl 6 (by decide) (hts _ qw134) (fun _ h9 => h9) rfl dX4_flip_64 ?_
      obtain rfl := Sum.inl.inj (Option.some.inj h)
      exact W.iret hx hb hr (fun t ht hW => ⟨e1, T1, hRp, rfl, by rw [ht]; exact hP, hD, hS.F ht⟩) hS.2.2 dX4_flip_67
    · have h := iteT hc h
      exact absurd (Option.some.inj h) (fun z => by cases z)
  · have h := iteT hc h
    exact absurd (Option.some.inj h) (fun z => by cases z)

abbrev rx_X4_flip : Room := { frames := 10, cells := 4, slots := 46, locals := 340 }
set_option maxHeartbeats 4000000 in
set_option maxRecDepth 100000 in
theorem x_X4_flip (l : Launch) (hl9 : l.stackTraces = false) (z0 : Nat) (D : va_G) (t : Nat → ClassId) (x0 : Nat) (s0 : Nat) (s1 : Nat) (e0 : Nat) (E : Nat → Nat) (A : Nat → Nat) (B : Nat → Nat) (G : Nat → Nat) (T : va_W) (μ : XS) (a1 : Int32) (a2 : Int32) (a3 : Int32) (xE : String) (sz : Nat) (L : List GS) (S0 S1 : Option GS) (hRep : Rep t e0 T L (x_sl μ) S0 S1) (hnL : x_lsize μ = nI L.length) (h : f_X4_flip μ a1 a2 a3 = some (.inr xE)) : vx_Met l yX4_flip (ws_ yX4_flip cX4_flip 4 (some .int)) rx_X4_flip (PM z0 D t [.ref (x0), .int a1, .int a2, .int a3] (XW x0 s0 s1 e0 E A B G T t μ) (XL x0 s0 s1 e0 E A B G T μ) sz) (fun _ _ _ _ => False) (XM xE D (XW x0 s0 s1 e0 E A B G T t μ) (XL x0 s0 s1 e0 E A B G T μ) sz) 4 46 (OA (XL x0 s0 s1 e0 E A B G T μ) sz) := by
  refine vx_ofW (cc := cX4_flip) (maxL := 4) (ret := (some .int)) (by decide) rfl ?_
  intro p e s m args below meth c s₁ Bo hml hT hv
  obtain ⟨rfl, hC, hsz, hP, hD, hZ⟩ := hv
  have hx := Bo.exec
  have hb := Bo.bytes
  have hr := Bo.returns
  have hts : ∀ w ∈ LA, w.before _ s = true := fun w hw => atoms_spec (ws := ws_ yX4_flip cX4_flip 4 (some .int)) Bo.pre w (List.mem_cons_of_mem _ hw)
  have hown : s.vm.findClass RX4 = some m.cls := findClass_of_methodNamed Bo.named
  have hlocks := Bo.notSynchronized
  have hK := hC.1
  subst hsz
  have hl := lv_entry ([.ref (x0), .int a1, .int a2, .int a3]) (n := 4) (Nat.le_of_ble_eq_true rfl)
  rw [lg_entry_eq]
  generalize (lg_sl ([.ref (x0), .int a1, .int a2, .int a3]) ++ List.replicate (4 - (lg_sl ([.ref (x0), .int a1, .int a2, .int a3])).length) Slot.unset).toArray = ls at hl ⊢
  have hl : lv_has ls 4 [(0, .ref (x0)), (1, .int a1), (2, .int a2), (3, .int a3)] := hl
  suffices K9 : ∀ (H : Heap) (locs : List Loc), va_P D vwCl (XW x0 s0 s1 e0 E A B G T t μ) H → va_S (OA (XL x0 s0 s1 e0 E A B G T μ) s.heap.size) s.heap H locs → W p l e (headSpec (ws_ yX4_flip cX4_flip 4 (some .int)) rx_X4_flip).room s m ([.ref (x0), .int a1, .int a2, .int a3] : List Value).toArray below meth c H locs 0 0 (vx_MQ below (fun _ _ _ _ => False) (XM xE D (XW x0 s0 s1 e0 E A B G T t μ) (XL x0 s0 s1 e0 E A B G T μ) s.heap.size) ([.ref (x0), .int a1, .int a2, .int a3] : List Value).toArray s 4 46 (OA (XL x0 s0 s1 e0 E A B G T μ) s.heap.size)) (F0 m 0 ls []) from K9 s.heap [] hP va_S.rf
  intro H locs hP hS
  have hSz : s.heap.size ≤ H.size := hS.1
  unfold f_X4_flip at h
  refine lv_aload_n hx hb dX4_flip_0 rfl (lv_at hl 0 rfl) ?_
  refine va_get hx hb hts inX4 hown hK hP 0 rfl rfl 4 (by decide) (hts _ qw161) (fun _ h9 => h9) rfl dX4_flip_1 ?_
  refine lv_iload_n hx hb dX4_flip_4 rfl (lv_at hl 1 rfl) ?_
  refine lv_iload_n hx hb dX4_flip_5 rfl (lv_at hl 2 rfl) ?_
  refine lv_iload_n hx hb dX4_flip_6 rfl (lv_at hl 3 rfl) ?_
  obtain ⟨r1, er1, h⟩ := obind h
  refine call_R (va_runV (As := [.int a1, .int a2, .int a3]) (rest := []) ⟨hx, hb, hml, hown, hts⟩ (c_X1_hasFlipBlock l z0 D t G ((x_wide μ), (x_high μ), (x_pond μ), (x_walls μ), (x_paved μ), (x_tc μ), (x_flips μ), (x_refused μ), (x_names μ)) a1 a2 a3 _ er1) (kV hts qw809 qw435 qw436 qw8 qw437 ok_X1_hasFlipBlock ⟨Nat.le_of_ble_eq_true rfl, Nat.le_of_ble_eq_true rfl⟩) ⟨PR.blind, va_recv hK (sub_X_G (μ := μ) hP) (ci := 2) (q0 := 0) rfl rfl, fun U hU hW => ⟨rfl, by rw [hU]; exact (hC.at hS hZ).warm hW, by rw [hU]; exact (sub_X_G (μ := μ) hP)⟩⟩ rfl rfl hl.1 rfl (lv_room (Nat.le_of_ble_eq_true rfl)) dX4_flip_7 ⟨Nat.le_of_ble_eq_true rfl, Nat.le_of_ble_eq_true rfl⟩) ?_
  refine lv_if_ne (tgt := 23) hx hb dX4_flip_10 (by decide) (fun hc => ?_) (fun hc => ?_)
  · have h := iteF hc h
    refine lv_aload_n hx hb dX4_flip_23 rfl (lv_at hl 0 rfl) ?_
    refine va_get hx hb hts inX4 hown hK hP 0 rfl rfl 4 (by decide) (hts _ qw161) (fun _ h9 => h9) rfl dX4_flip_24 ?_
    refine lv_iload_n hx hb dX4_flip_27 rfl (lv_at hl 1 rfl) ?_
    refine lv_iload_n hx hb dX4_flip_28 rfl (lv_at hl 2 rfl) ?_
    refine lv_iload_n hx hb dX4_flip_29 rfl (lv_at hl 3 rfl) ?_
    obtain ⟨r2, er2, h⟩ := obind h
    refine call_R (va_runV (As := [.int a1, .int a2, .int a3]) (rest := []) ⟨hx, hb, hml, hown, hts⟩ (c_X1_isFlippable l z0 D t G ((x_wide μ), (x_high μ), (x_pond μ), (x_walls μ), (x_paved μ), (x_tc μ), (x_flips μ), (x_refused μ), (x_names μ)) a1 a2 a3 _ er2) (kV hts qw811 qw439 qw440 qw8 qw441 ok_X1_isFlippable ⟨Nat.le_of_ble_eq_true rfl, Nat.le_of_ble_eq_true rfl⟩) ⟨PR.blind, va_recv hK (sub_X_G (μ := μ) hP) (ci := 2) (q0 := 0) rfl rfl, fun U hU hW => ⟨rfl, by rw [hU]; exact (hC.at hS hZ).warm hW, by rw [hU]; exact (sub_X_G (μ := μ) hP)⟩⟩ rfl rfl hl.1 rfl (lv_room (Nat.le_of_ble_eq_true rfl)) dX4_flip_30 ⟨Nat.le_of_ble_eq_true rfl, Nat.le_of_ble_eq_true rfl⟩) ?_
    refine lv_if_ne (tgt := 46) hx hb dX4_flip_33 (by decide) (fun hc => ?_) (fun hc => ?_)
    · have h := iteF hc h
      refine lv_aload_n hx hb dX4_flip_46 rfl (lv_at hl 0 rfl) ?_
      obtain ⟨r3, er3, h⟩ := obind h
      refine call_S (va_runV (As := []) (rest := []) ⟨hx, hb, hml, hown, hts⟩ (c_X4_saveState l z0 D t x0 s0 s1 e0 E A B G T μ L S0 S1 H.size hRep hnL) (kV hts qw662 qw664 qs23 qw1 qw665 ok_X4_saveState ⟨Nat.le_of_ble_eq_true rfl, Nat.le_of_ble_eq_true rfl⟩) ⟨PM.blind, va_recv hK hP (ci := 5) (q0 := 0) rfl rfl, fun U hU hW => ⟨rfl, by rw [hU]; exact (hC.at hS hZ).warm hW, by rw [hU], by rw [hU]; exact hP, ⟨hD.1, fun _ _ h9 => Or.inl (in_map (L := (XL x0 s0 s1 e0 E A B G T μ)) rfl h9)⟩, fun q hq => hZ q (OA.ofD hD rfl hSz q hq)⟩⟩ rfl rfl hl.1 rfl (lv_room (Nat.le_of_ble_eq_true rfl)) dX4_flip_47 ⟨Nat.le_of_ble_eq_true rfl, Nat.le_of_ble_eq_true rfl⟩) hS (OA.ofD hD rfl hSz) (fun e1 T1 H locs hRp hP hD1 hS _ _ => ?_)
      have hP : va_P D vwCl (XW x0 s0 s1 e1 E A B G T1 t (svX μ)) H := hP
      rw [svX_eq er3] at hP hD1
      have hP : va_P D vwCl (XW x0 s0 s1 e1 E A B G T1 t (x_lsize' (x_lmod' μ r3.1) r3.2)) H := hP
      have hD : va_D (OA (XL x0 s0 s1 e0 E A B G T μ) s.heap.size) (XW x0 s0 s1 e1 E A B G T1 t (x_lsize' (x_lmod' μ r3.1) r3.2)) := hD1.weaken (fun _ q _ h9 => OA.ofD hD rfl hSz q.1 h9)
      have hSz : s.heap.size ≤ H.size := hS.1
      refine W.widen (k := 3) (n := 40) (by omega) (by omega) ?_
      refine lv_aload_n hx hb dX4_flip_50 rfl (lv_at hl 0 rfl) ?_
      refine va_get hx hb hts inX4 hown hK hP 0 rfl rfl 4 (by decide) (hts _ qw161) (fun _ h9 => h9) rfl dX4_flip_51 ?_
      refine lv_iload_n hx hb dX4_flip_54 rfl (lv_at hl 1 rfl) ?_
      refine lv_iload_n hx hb dX4_flip_55 rfl (lv_at hl 2 rfl) ?_
      refine lv_iload_n hx hb dX4_flip_56 rfl (lv_at hl 3 rfl) ?_
      obtain ⟨r4, er4, h⟩ := obind h
      refine call_M (va_runV (As := [.int a1, .int a2, .int a3]) (rest := []) ⟨hx, hb, hml, hown, hts⟩ (c_X1_flipBlock l z0 D t G ((x_wide μ), (x_high μ), (x_pond μ), (x_walls μ), (x_paved μ), (x_tc μ), (x_flips μ), (x_refused μ), (x_names μ)) a1 a2 a3 _ H.size er4) (kV hts qw813 qw814 qw815 qw8 qw816 ok_X1_flipBlock ⟨Nat.le_of_ble_eq_true rfl, Nat.le_of_ble_eq_true rfl⟩) ⟨PM.blind, va_recv hK (sub_X_G (μ := x_lsize' (x_lmod' μ r3.1) r3.2) hP) (ci := 2) (q0 := 0) rfl rfl, fun U hU hW => ⟨rfl, by rw [hU]; exact (hC.at hS hZ).warm hW, by rw [hU], by rw [hU]; exact (sub_X_G (μ := x_lsize' (x_lmod' μ r3.1) r3.2) hP), ⟨(subD_X_G (μ := x_lsize' (x_lmod' μ r3.1) r3.2) hD).1, fun _ _ h9 => Or.inl (in_map (L := (GL G)) rfl h9)⟩, fun q hq => hZ q (OA.ofD (subD_X_G (μ := x_lsize' (x_lmod' μ r3.1) r3.2) hD) rfl hSz q hq)⟩⟩ rfl rfl hl.1 rfl (lv_room (Nat.le_of_ble_eq_true rfl)) dX4_flip_57 ⟨Nat.le_of_ble_eq_true rfl, Nat.le_of_ble_eq_true rfl⟩) hS (OA.ofD (subD_X_G (μ := x_lsize' (x_lmod' μ r3.1) r3.2) hD) rfl hSz) (fun H locs hP1 hD1 hS _ hk1 => ?_)
      obtain ⟨hP, hD⟩ := back_X_G (μ := x_lsize' (x_lmod' μ r3.1) r3.2) hP hD hk1 hP1
      have hP : va_P D vwCl (XW x0 s0 s1 e1 E A B G T1 t (x_length μ, x_codes μ, x_rest μ, x_takes μ, x_u1 μ, x_u2 μ, x_hsz μ, x_hwin μ, x_hway μ, x_nsz μ, x_nwin μ, x_nway μ, x_wide μ, x_high μ, x_pond μ, x_walls μ, r4.1, r4.2.1, r4.2.2.1, x_refused μ, r4.2.2.2, x_sl μ, r3.1, r3.2)) H := hP
      have hD : va_D (OA (XL x0 s0 s1 e0 E A B G T μ) s.heap.size) (XW x0 s0 s1 e1 E A B G T1 t (x_length μ, x_codes μ, x_rest μ, x_takes μ, x_u1 μ, x_u2 μ, x_hsz μ, x_hwin μ, x_hway μ, x_nsz μ, x_nwin μ, x_nway μ, x_wide μ, x_high μ, x_pond μ, x_walls μ, r4.1, r4.2.1, r4.2.2.1, x_refused μ, r4.2.2.2, x_sl μ, r3.1, r3.2)) := hD
      have hSz : s.heap.size ≤ H.size := hS.1
      refine lv_aload_n hx hb dX4_flip_60 rfl (lv_at hl 0 rfl) ?_
      refine va_get hx hb hts inX4 hown hK hP 0 rfl rfl 4 (by decide) (hts _ qw161) (fun _ h9 => h9) rfl dX4_flip_61 ?_
      refine va_get hx hb hts inX1 hown hK hP 13 rfl rfl 6 (by decide) (hts _ qw134) (fun _ h9 => h9) rfl dX4_flip_64 ?_
      exact absurd (Option.some.inj h) (fun z => by cases z)
    · have h := iteT hc h
      obtain rfl := Sum.inr.inj (Option.some.inj h)
      obtain ⟨sa, hsa⟩ := hC.2.2.2.2.2.1 ("BentGardens", 138, "the block is not covered by two triples") (by decide +kernel)
      refine vx_throwS hx hb hl9 hown (cls := "java/lang/IllegalStateException") (names := ["java/lang/RuntimeException", "java/lang/Exception"]) (by decide) (by decide) (hts _ qw755) (hts _ qw21) hsa (at_words hts hC.2.1 at_IllegalStateException) ato_IllegalStateException (hC.2.2.2.2.2.2.2.1.narrow hZ) (hC.2.2.2.2.2.2.2.2.1.narrow hZ) hS (hl.1.trans hml.symm) dX4_flip_36 dX4_flip_39 dX4_flip_40 dX4_flip_42 dX4_flip_45 (fun x9 hx9 => (hT x9 hx9).elim) (Nat.le_of_ble_eq_true rfl) (Nat.le_of_ble_eq_true rfl) (Nat.le_of_ble_eq_true rfl) (Nat.le_of_ble_eq_true rfl) hlocks (fun t9 _ h8 h9 => XM.mk hP hD hS h8 h9) hS.2.2 (Nat.le_of_ble_eq_true rfl) (Nat.le_of_ble_eq_true rfl)
  · have h := iteT hc h
    obtain rfl := Sum.inr.inj (Option.some.inj h)
    obtain ⟨sa, hsa⟩ := hC.2.2.2.2.2.1 ("BentGardens", 132, "the block is not wholly in the garden") (by decide +kernel)
    refine vx_throwS hx hb hl9 hown (cls := "java/lang/IndexOutOfBoundsException") (names := ["java/lang/RuntimeException", "java/lang/Exception"]) (by decide) (by decide) (hts _ qw551) (hts _ qw20) hsa (at_words hts hC.2.1 at_IndexOutOfBoundsException) ato_IndexOutOfBoundsException (hC.2.2.2.2.2.2.2.1.narrow hZ) (hC.2.2.2.2.2.2.2.2.1.narrow hZ) hS (hl.1.trans hml.symm) dX4_flip_13 dX4_flip_16 dX4_flip_17 dX4_flip_19 dX4_flip_22 (fun x9 hx9 => (hT x9 hx9).elim) (Nat.le_of_ble_eq_true rfl) (Nat.le_of_ble_eq_true rfl) (Nat.le_of_ble_eq_true rfl) (Nat.le_of_ble_eq_true rfl) hlocks (fun t9 _ h8 h9 => XM.mk hP hD hS h8 h9) hS.2.2 (Nat.le_of_ble_eq_true rfl) (Nat.le_of_ble_eq_true rfl)

abbrev rm_X4_fill : Room := { frames := 10, cells := 3, slots := 40, locals := 340 }
theorem ok_X4_fill : okY yX4_fill 0 := ⟨by decide +kernel, by decide +kernel, by decide +kernel⟩
set_option maxHeartbeats 4000000 in
set_option maxRecDepth 100000 in
theorem c_X4_fill (l : Launch) (z0 : Nat) (D : va_G) (t : Nat → ClassId) (x0 : Nat) (s0 : Nat) (s1 : Nat) (e0 : Nat) (E : Nat → Nat) (A : Nat → Nat) (B : Nat → Nat) (G : Nat → Nat) (T : va_W) (μ : XS) (res : Int32 × (Nat → Nat → Int32) × (Nat → Int32) × (Nat → Nat) × (Nat → Nat) × (Int32) × (Nat → Int32) × (Nat → Int32) × (Int32) × (Nat → Int32) × (Nat → Int32) × (Int64) × (Int32) × (Nat → Int32) × (Int32) × (Int32)) (sz : Nat) (L : List GS) (S0 S1 : Option GS) (hRep : Rep t e0 T L (x_sl μ) S0 S1) (hnL : x_lsize μ = nI L.length) (h : f_X4_fill μ = some (.inl res)) : Met l yX4_fill (ws_ yX4_fill cX4_fill 2 (some .int)) rm_X4_fill (PM z0 D t [.ref (x0)] (XW x0 s0 s1 e0 E A B G T t μ) (XL x0 s0 s1 e0 E A B G T μ) sz) (QS (some (.int res.1)) D (fun e T => (XW x0 s0 s1 e E A B G T t (x_length μ, x_codes μ, res.2.1, res.2.2.1, res.2.2.2.1, res.2.2.2.2.1, res.2.2.2.2.2.1, res.2.2.2.2.2.2.1, res.2.2.2.2.2.2.2.1, res.2.2.2.2.2.2.2.2.1, res.2.2.2.2.2.2.2.2.2.1, res.2.2.2.2.2.2.2.2.2.2.1, x_wide μ, x_high μ, x_pond μ, x_walls μ, res.2.2.2.2.2.2.2.2.2.2.2.1, res.2.2.2.2.2.2.2.2.2.2.2.2.1, x_flips μ, x_refused μ, res.2.2.2.2.2.2.2.2.2.2.2.2.2.1, x_sl μ, res.2.2.2.2.2.2.2.2.2.2.2.2.2.2.1, res.2.2.2.2.2.2.2.2.2.2.2.2.2.2.2))) (fun e T => Rep t e T (svL L (gsX μ)) (x_sl μ) S0 S1) (XL x0 s0 s1 e0 E A B G T μ) sz) 3 40 (OA (XL x0 s0 s1 e0 E A B G T μ) sz) := by
  refine Met.ofW (cc := cX4_fill) (maxL := 2) (ret := (some .int)) (by decide) rfl ?_
  intro p e s m args below meth c s₁ Bo hml hv
  obtain ⟨rfl, hC, hsz, hP, hD, hZ⟩ := hv
  have hx := Bo.exec
  have hb := Bo.bytes
  have hr := Bo.returns
  have hts : ∀ w ∈ LA, w.before _ s = true := fun w hw => atoms_spec (ws := ws_ yX4_fill cX4_fill 2 (some .int)) Bo.pre w (List.mem_cons_of_mem _ hw)
  have hown : s.vm.findClass RX4 = some m.cls := findClass_of_methodNamed Bo.named
  have hlocks := Bo.notSynchronized
  have hK := hC.1
  subst hsz
  have hl := lv_entry ([.ref (x0)]) (n := 2) (Nat.le_of_ble_eq_true rfl)
  rw [lg_entry_eq]
  generalize (lg_sl ([.ref (x0)]) ++ List.replicate (2 - (lg_sl ([.ref (x0)])).length) Slot.unset).toArray = ls at hl ⊢
  have hl : lv_has ls 2 [(0, .ref (x0))] := hl
  suffices K9 : ∀ (H : Heap) (locs : List Loc), va_P D vwCl (XW x0 s0 s1 e0 E A B G T t μ) H → va_S (OA (XL x0 s0 s1 e0 E A B G T μ) s.heap.size) s.heap H locs → W p l e (headSpec (ws_ yX4_fill cX4_fill 2 (some .int)) rm_X4_fill).room s m ([.ref (x0)] : List Value).toArray below meth c H locs 0 0 (MQ below (QS (some (.int res.1)) D (fun e T => (XW x0 s0 s1 e E A B G T t (x_length μ, x_codes μ, res.2.1, res.2.2.1, res.2.2.2.1, res.2.2.2.2.1, res.2.2.2.2.2.1, res.2.2.2.2.2.2.1, res.2.2.2.2.2.2.2.1, res.2.2.2.2.2.2.2.2.1, res.2.2.2.2.2.2.2.2.2.1, res.2.2.2.2.2.2.2.2.2.2.1, x_wide μ, x_high μ, x_pond μ, x_walls μ, res.2.2.2.2.2.2.2.2.2.2.2.1, res.2.2.2.2.2.2.2.2.2.2.2.2.1, x_flips μ, x_refused μ, res.2.2.2.2.2.2.2.2.2.2.2.2.2.1, x_sl μ, res.2.2.2.2.2.2.2.2.2.2.2.2.2.2.1, res.2.2.2.2.2.2.2.2.2.2.2.2.2.2.2))) (fun e T => Rep t e T (svL L (gsX μ)) (x_sl μ) S0 S1) (XL x0 s0 s1 e0 E A B G T μ) s.heap.size) ([.ref (x0)] : List Value).toArray s 3 40 (OA (XL x0 s0 s1 e0 E A B G T μ) s.heap.size)) (F0 m 0 ls []) from K9 s.heap [] hP va_S.rf
  intro H locs hP hS
  have hSz : s.heap.size ≤ H.size := hS.1
  unfold f_X4_fill at h
  refine lv_aload_n hx hb dX4_fill_0 rfl (lv_at hl 0 rfl) ?_
  refine va_get hx hb hts inX4 hown hK hP 0 rfl rfl 3 (by decide) (hts _ qw160) (fun _ h9 => h9) rfl dX4_fill_1 ?_
  refine lv_aload_n hx hb dX4_fill_4 rfl (lv_at hl 0 rfl) ?_
  refine va_get hx hb hts inX4 hown hK hP 0 rfl rfl 4 (by decide) (hts _ qw161) (fun _ h9 => h9) rfl dX4_fill_5 ?_
  obtain ⟨r1, er1, h⟩ := obind h
  refine call_R (va_runV (As := []) (rest := [.ref (A 0)]) ⟨hx, hb, hml, hown, hts⟩ (c_X1_freeCells l z0 D t G ((x_wide μ), (x_high μ), (x_pond μ), (x_walls μ), (x_paved μ), (x_tc μ), (x_flips μ), (x_refused μ), (x_names μ)) _ er1) (kV hts qw242 qw243 qw244 qw8 qw245 ok_X1_freeCells ⟨Nat.le_of_ble_eq_true rfl, Nat.le_of_ble_eq_true rfl⟩) ⟨PR.blind, va_recv hK (sub_X_G (μ := μ) hP) (ci := 2) (q0 := 0) rfl rfl, fun U hU hW => ⟨rfl, by rw [hU]; exact (hC.at hS hZ).warm hW, by rw [hU]; exact (sub_X_G (μ := μ) hP)⟩⟩ rfl rfl hl.1 rfl (lv_room (Nat.le_of_ble_eq_true rfl)) dX4_fill_8 ⟨Nat.le_of_ble_eq_true rfl, Nat.le_of_ble_eq_true rfl⟩) ?_
  obtain ⟨r2, er2, h⟩ := obind h
  refine call_M (va_runV (As := [.long r1]) (rest := []) ⟨hx, hb, hml, hown, hts⟩ (c_X2_waysToPave l z0 D t A B ((x_rest μ), (x_takes μ), (x_u1 μ), (x_u2 μ), (x_hsz μ), (x_hwin μ), (x_hway μ), (x_nsz μ), (x_nwin μ), (x_nway μ)) r1 _ H.size er2) (kV hts qw255 qw256 qw257 qw6 qw258 ok_X2_waysToPave ⟨Nat.le_of_ble_eq_true rfl, Nat.le_of_ble_eq_true rfl⟩) ⟨PM.blind, va_recv hK (sub_X_V (μ := μ) hP) (ci := 3) (q0 := 0) rfl rfl, fun U hU hW => ⟨rfl, by rw [hU]; exact (hC.at hS hZ).warm hW, by rw [hU], by rw [hU]; exact (sub_X_V (μ := μ) hP), ⟨(subD_X_V (μ := μ) hD).1, fun _ _ h9 => Or.inl (in_map (L := (VL A B ((x_rest μ), (x_takes μ), (x_u1 μ), (x_u2 μ), (x_hsz μ), (x_hwin μ), (x_hway μ), (x_nsz μ), (x_nwin μ), (x_nway μ)))) rfl h9)⟩, fun q hq => hZ q (OA.ofD (subD_X_V (μ := μ) hD) rfl hSz q hq)⟩⟩ rfl rfl hl.1 rfl (lv_room (Nat.le_of_ble_eq_true rfl)) dX4_fill_11 ⟨Nat.le_of_ble_eq_true rfl, Nat.le_of_ble_eq_true rfl⟩) hS (OA.ofD (subD_X_V (μ := μ) hD) rfl hSz) (fun H locs hP1 hD1 hS _ hk1 => ?_)
  obtain ⟨hP, hD⟩ := back_X_V (μ := μ) hP hD hk1 (OA.ofD (subD_X_V (μ := μ) hD) rfl hSz) hP1 hD1
  have hP : va_P D vwCl (XW x0 s0 s1 e0 E A B G T t (x_length μ, x_codes μ, x_rest μ, r2.2.1, r2.2.2.1, r2.2.2.2.1, r2.2.2.2.2.1, r2.2.2.2.2.2.1, r2.2.2.2.2.2.2.1, r2.2.2.2.2.2.2.2.1, r2.2.2.2.2.2.2.2.2.1, r2.2.2.2.2.2.2.2.2.2, x_wide μ, x_high μ, x_pond μ, x_walls μ, x_paved μ, x_tc μ, x_flips μ, x_refused μ, x_names μ, x_sl μ, x_lmod μ, x_lsize μ)) H := hP
  have hD : va_D (OA (XL x0 s0 s1 e0 E A B G T μ) s.heap.size) (XW x0 s0 s1 e0 E A B G T t (x_length μ, x_codes μ, x_rest μ, r2.2.1, r2.2.2.1, r2.2.2.2.1, r2.2.2.2.2.1, r2.2.2.2.2.2.1, r2.2.2.2.2.2.2.1, r2.2.2.2.2.2.2.2.1, r2.2.2.2.2.2.2.2.2.1, r2.2.2.2.2.2.2.2.2.2, x_wide μ, x_high μ, x_pond μ, x_walls μ, x_paved μ, x_tc μ, x_flips μ, x_refused μ, x_names μ, x_sl μ, x_lmod μ, x_lsize μ)) := hD
  have hSz : s.heap.size ≤ H.size := hS.1
  refine lv_if_ne (tgt := 27) hx hb dX4_fill_14 (by decide) (fun hc => ?_) (fun hc => ?_)
  · have h := iteF hc h
    refine lv_aload_n hx hb dX4_fill_27 rfl (lv_at hl 0 rfl) ?_
    obtain ⟨r3, er3, h⟩ := obind h
    refine call_S (va_runV (As := []) (rest := []) ⟨hx, hb, hml, hown, hts⟩ (c_X4_saveState l z0 D t x0 s0 s1 e0 E A B G T (x_length μ, x_codes μ, x_rest μ, r2.2.1, r2.2.2.1, r2.2.2.2.1, r2.2.2.2.2.1, r2.2.2.2.2.2.1, r2.2.2.2.2.2.2.1, r2.2.2.2.2.2.2.2.1, r2.2.2.2.2.2.2.2.2.1, r2.2.2.2.2.2.2.2.2.2, x_wide μ, x_high μ, x_pond μ, x_walls μ, x_paved μ, x_tc μ, x_flips μ, x_refused μ, x_names μ, x_sl μ, x_lmod μ, x_lsize μ) L S0 S1 H.size hRep hnL) (kV hts qw662 qw664 qs23 qw1 qw665 ok_X4_saveState ⟨Nat.le_of_ble_eq_true rfl, Nat.le_of_ble_eq_true rfl⟩) ⟨PM.blind, va_recv hK hP (ci := 5) (q0 := 0) rfl rfl, fun U hU hW => ⟨rfl, by rw [hU]; exact (hC.at hS hZ).warm hW, by rw [hU], by rw [hU]; exact hP, ⟨hD.1, fun _ _ h9 => Or.inl (in_map (L := (XL x0 s0 s1 e0 E A B G T (x_length μ, x_codes μ, x_rest μ, r2.2.1, r2.2.2.1, r2.2.2.2.1, r2.2.2.2.2.1, r2.2.2.2.2.2.1, r2.2.2.2.2.2.2.1, r2.2.2.2.2.2.2.2.1, r2.2.2.2.2.2.2.2.2.1, r2.2.2.2.2.2.2.2.2.2, x_wide μ, x_high μ, x_pond μ, x_walls μ, x_paved μ, x_tc μ, x_flips μ, x_refused μ, x_names μ, x_sl μ, x_lmod μ, x_lsize μ))) rfl h9)⟩, fun q hq => hZ q (OA.ofD hD rfl hSz q hq)⟩⟩ rfl rfl hl.1 rfl (lv_room (Nat.le_of_ble_eq_true rfl)) dX4_fill_28 ⟨Nat.le_of_ble_eq_true rfl, Nat.le_of_ble_eq_true rfl⟩) hS (OA.ofD hD rfl hSz) (fun e1 T1 H locs hRp hP hD1 hS _ _ => ?_)
    have hP : va_P D vwCl (XW x0 s0 s1 e1 E A B G T1 t (svX (x_length μ, x_codes μ, x_rest μ, r2.2.1, r2.2.2.1, r2.2.2.2.1, r2.2.2.2.2.1, r2.2.2.2.2.2.1, r2.2.2.2.2.2.2.1, r2.2.2.2.2.2.2.2.1, r2.2.2.2.2.2.2.2.2.1, r2.2.2.2.2.2.2.2.2.2, x_wide μ, x_high μ, x_pond μ, x_walls μ, x_paved μ, x_tc μ, x_flips μ, x_refused μ, x_names μ, x_sl μ, x_lmod μ, x_lsize μ))) H := hP
    rw [svX_eq er3] at hP hD1
    have hP : va_P D vwCl (XW x0 s0 s1 e1 E A B G T1 t (x_length μ, x_codes μ, x_rest μ, r2.2.1, r2.2.2.1, r2.2.2.2.1, r2.2.2.2.2.1, r2.2.2.2.2.2.1, r2.2.2.2.2.2.2.1, r2.2.2.2.2.2.2.2.1, r2.2.2.2.2.2.2.2.2.1, r2.2.2.2.2.2.2.2.2.2, x_wide μ, x_high μ, x_pond μ, x_walls μ, x_paved μ, x_tc μ, x_flips μ, x_refused μ, x_names μ, x_sl μ, r3.1, r3.2)) H := hP
    have hD : va_D (OA (XL x0 s0 s1 e0 E A B G T μ) s.heap.size) (XW x0 s0 s1 e1 E A B G T1 t (x_length μ, x_codes μ, x_rest μ, r2.2.1, r2.2.2.1, r2.2.2.2.1, r2.2.2.2.2.1, r2.2.2.2.2.2.1, r2.2.2.2.2.2.2.1, r2.2.2.2.2.2.2.2.1, r2.2.2.2.2.2.2.2.2.1, r2.2.2.2.2.2.2.2.2.2, x_wide μ, x_high μ, x_pond μ, x_walls μ, x_paved μ, x_tc μ, x_flips μ, x_refused μ, x_names μ, x_sl μ, r3.1, r3.2)) := hD1.weaken (fun _ q _ h9 => OA.ofD hD rfl hSz q.1 h9)
    have hSz : s.heap.size ≤ H.size := hS.1
    refine W.widen (k := 3) (n := 40) (by omega) (by omega) ?_
    refine lv_aload_n hx hb dX4_fill_31 rfl (lv_at hl 0 rfl) ?_
    refine va_get hx hb hts inX4 hown hK hP 0 rfl rfl 4 (by decide) (hts _ qw161) (fun _ h9 => h9) rfl dX4_fill_32 ?_
    refine va_get hx hb hts inX1 hown hK hP 13 rfl rfl 5 (by decide) (hts _ qw132) (fun _ h9 => h9) rfl dX4_fill_35 ?_
    obtain ⟨x4, ex4, h⟩ := jlet_some h
    refine topI ex4 ?_
    refine lv_istore_n (lv' := [(1, .int x4), (0, .ref (x0))]) hx hb dX4_fill_38 rfl hl (by decide) rfl (fun ls hl => ?_)
    refine lv_aload_n hx hb dX4_fill_39 rfl (lv_at hl 1 rfl) ?_
    refine va_get hx hb hts inX4 hown hK hP 0 rfl rfl 3 (by decide) (hts _ qw160) (fun _ h9 => h9) rfl dX4_fill_40 ?_
    refine lv_aload_n hx hb dX4_fill_43 rfl (lv_at hl 1 rfl) ?_
    refine va_get hx hb hts inX4 hown hK hP 0 rfl rfl 4 (by decide) (hts _ qw161) (fun _ h9 => h9) rfl dX4_fill_44 ?_
    obtain ⟨r5, er5, h⟩ := obind h
    refine call_M (va_runV (As := [.ref (G 0)]) (rest := []) ⟨hx, hb, hml, hown, hts⟩ (c_X2_paveFirstWay l z0 D t A B G ((x_rest μ), r2.2.1, r2.2.2.1, r2.2.2.2.1, r2.2.2.2.2.1, r2.2.2.2.2.2.1, r2.2.2.2.2.2.2.1, r2.2.2.2.2.2.2.2.1, r2.2.2.2.2.2.2.2.2.1, r2.2.2.2.2.2.2.2.2.2, (x_wide μ), (x_high μ), (x_pond μ), (x_walls μ), (x_paved μ), (x_tc μ), (x_flips μ), (x_refused μ), (x_names μ)) _ H.size er5) (kV hts qw829 qw830 qw831 qw6 qw832 ok_X2_paveFirstWay ⟨Nat.le_of_ble_eq_true rfl, Nat.le_of_ble_eq_true rfl⟩) ⟨PM.blind, va_recv hK (sub_X_VG (μ := (x_length μ, x_codes μ, x_rest μ, r2.2.1, r2.2.2.1, r2.2.2.2.1, r2.2.2.2.2.1, r2.2.2.2.2.2.1, r2.2.2.2.2.2.2.1, r2.2.2.2.2.2.2.2.1, r2.2.2.2.2.2.2.2.2.1, r2.2.2.2.2.2.2.2.2.2, x_wide μ, x_high μ, x_pond μ, x_walls μ, x_paved μ, x_tc μ, x_flips μ, x_refused μ, x_names μ, x_sl μ, r3.1, r3.2)) hP) (ci := 3) (q0 := 0) rfl rfl, fun U hU hW => ⟨rfl, by rw [hU]; exact (hC.at hS hZ).warm hW, by rw [hU], by rw [hU]; exact (sub_X_VG (μ := (x_length μ, x_codes μ, x_rest μ, r2.2.1, r2.2.2.1, r2.2.2.2.1, r2.2.2.2.2.1, r2.2.2.2.2.2.1, r2.2.2.2.2.2.2.1, r2.2.2.2.2.2.2.2.1, r2.2.2.2.2.2.2.2.2.1, r2.2.2.2.2.2.2.2.2.2, x_wide μ, x_high μ, x_pond μ, x_walls μ, x_paved μ, x_tc μ, x_flips μ, x_refused μ, x_names μ, x_sl μ, r3.1, r3.2)) hP), ⟨(subD_X_VG (μ := (x_length μ, x_codes μ, x_rest μ, r2.2.1, r2.2.2.1, r2.2.2.2.1, r2.2.2.2.2.1, r2.2.2.2.2.2.1, r2.2.2.2.2.2.2.1, r2.2.2.2.2.2.2.2.1, r2.2.2.2.2.2.2.2.2.1, r2.2.2.2.2.2.2.2.2.2, x_wide μ, x_high μ, x_pond μ, x_walls μ, x_paved μ, x_tc μ, x_flips μ, x_refused μ, x_names μ, x_sl μ, r3.1, r3.2)) hD).1, fun _ _ h9 => Or.inl (in_map (L := (VGL A B G ((x_rest μ), r2.2.1, r2.2.2.1, r2.2.2.2.1, r2.2.2.2.2.1, r2.2.2.2.2.2.1, r2.2.2.2.2.2.2.1, r2.2.2.2.2.2.2.2.1, r2.2.2.2.2.2.2.2.2.1, r2.2.2.2.2.2.2.2.2.2, (x_wide μ), (x_high μ), (x_pond μ), (x_walls μ), (x_paved μ), (x_tc μ), (x_flips μ), (x_refused μ), (x_names μ)))) rfl h9)⟩, fun q hq => hZ q (OA.ofD (subD_X_VG (μ := (x_length μ, x_codes μ, x_rest μ, r2.2.1, r2.2.2.1, r2.2.2.2.1, r2.2.2.2.2.1, r2.2.2.2.2.2.1, r2.2.2.2.2.2.2.1, r2.2.2.2.2.2.2.2.1, r2.2.2.2.2.2.2.2.2.1, r2.2.2.2.2.2.2.2.2.2, x_wide μ, x_high μ, x_pond μ, x_walls μ, x_paved μ, x_tc μ, x_flips μ, x_refused μ, x_names μ, x_sl μ, r3.1, r3.2)) hD) rfl hSz q hq)⟩⟩ rfl rfl hl.1 rfl (lv_room (Nat.le_of_ble_eq_true rfl)) dX4_fill_47 ⟨Nat.le_of_ble_eq_true rfl, Nat.le_of_ble_eq_true rfl⟩) hS (OA.ofD (subD_X_VG (μ := (x_length μ, x_codes μ, x_rest μ, r2.2.1, r2.2.2.1, r2.2.2.2.1, r2.2.2.2.2.1, r2.2.2.2.2.2.1, r2.2.2.2.2.2.2.1, r2.2.2.2.2.2.2.2.1, r2.2.2.2.2.2.2.2.2.1, r2.2.2.2.2.2.2.2.2.2, x_wide μ, x_high μ, x_pond μ, x_walls μ, x_paved μ, x_tc μ, x_flips μ, x_refused μ, x_names μ, x_sl μ, r3.1, r3.2)) hD) rfl hSz) (fun H locs hP1 hD1 hS _ hk1 => ?_)
    obtain ⟨hP, hD⟩ := back_X_VG (μ := (x_length μ, x_codes μ, x_rest μ, r2.2.1, r2.2.2.1, r2.2.2.2.1, r2.2.2.2.2.1, r2.2.2.2.2.2.1, r2.2.2.2.2.2.2.1, r2.2.2.2.2.2.2.2.1, r2.2.2.2.2.2.2.2.2.1, r2.2.2.2.2.2.2.2.2.2, x_wide μ, x_high μ, x_pond μ, x_walls μ, x_paved μ, x_tc μ, x_flips μ, x_refused μ, x_names μ, x_sl μ, r3.1, r3.2)) hP hD hk1 (OA.ofD (subD_X_VG (μ := (x_length μ, x_codes μ, x_rest μ, r2.2.1, r2.2.2.1, r2.2.2.2.1, r2.2.2.2.2.1, r2.2.2.2.2.2.1, r2.2.2.2.2.2.2.1, r2.2.2.2.2.2.2.2.1, r2.2.2.2.2.2.2.2.2.1, r2.2.2.2.2.2.2.2.2.2, x_wide μ, x_high μ, x_pond μ, x_walls μ, x_paved μ, x_tc μ, x_flips μ, x_refused μ, x_names μ, x_sl μ, r3.1, r3.2)) hD) rfl hSz) hP1 hD1
    have hP : va_P D vwCl (XW x0 s0 s1 e1 E A B G T1 t (x_length μ, x_codes μ, r5.1, r5.2.1, r2.2.2.1, r2.2.2.2.1, r2.2.2.2.2.1, r2.2.2.2.2.2.1, r2.2.2.2.2.2.2.1, r2.2.2.2.2.2.2.2.1, r2.2.2.2.2.2.2.2.2.1, r2.2.2.2.2.2.2.2.2.2, x_wide μ, x_high μ, x_pond μ, x_walls μ, r5.2.2.1, r5.2.2.2.1, x_flips μ, x_refused μ, r5.2.2.2.2, x_sl μ, r3.1, r3.2)) H := hP
    have hD : va_D (OA (XL x0 s0 s1 e0 E A B G T μ) s.heap.size) (XW x0 s0 s1 e1 E A B G T1 t (x_length μ, x_codes μ, r5.1, r5.2.1, r2.2.2.1, r2.2.2.2.1, r2.2.2.2.2.1, r2.2.2.2.2.2.1, r2.2.2.2.2.2.2.1, r2.2.2.2.2.2.2.2.1, r2.2.2.2.2.2.2.2.2.1, r2.2.2.2.2.2.2.2.2.2, x_wide μ, x_high μ, x_pond μ, x_walls μ, r5.2.2.1, r5.2.2.2.1, x_flips μ, x_refused μ, r5.2.2.2.2, x_sl μ, r3.1, r3.2)) := hD
    have hSz : s.heap.size ≤ H.size := hS.1
    refine lv_aload_n hx hb dX4_fill_50 rfl (lv_at hl 1 rfl) ?_
    refine va_get hx hb hts inX4 hown hK hP 0 rfl rfl 4 (by decide) (hts _ qw161) (fun _ h9 => h9) rfl dX4_fill_51 ?_
    refine va_get hx hb hts inX1 hown hK hP 13 rfl rfl 5 (by decide) (hts _ qw132) (fun _ h9 => h9) rfl dX4_fill_54 ?_
    refine lv_iload_n hx hb dX4_fill_57 rfl (lv_at hl 0 rfl) ?_
    refine lv_isub hx hb dX4_fill_58 ?_
    obtain rfl := Sum.inl.inj (Option.some.inj h)
    exact W.iret hx hb hr (fun t ht hW => ⟨e1, T1, hRp, rfl, by rw [ht]; exact hP, hD, hS.F ht⟩) hS.2.2 dX4_fill_59
  · have h := iteT hc h
    exact absurd (Option.some.inj h) (fun z => by cases z)

abbrev rx_X4_fill : Room := { frames := 10, cells := 4, slots := 46, locals := 340 }
set_option maxHeartbeats 4000000 in
set_option maxRecDepth 100000 in
theorem x_X4_fill (l : Launch) (hl9 : l.stackTraces = false) (z0 : Nat) (D : va_G) (t : Nat → ClassId) (x0 : Nat) (s0 : Nat) (s1 : Nat) (e0 : Nat) (E : Nat → Nat) (A : Nat → Nat) (B : Nat → Nat) (G : Nat → Nat) (T : va_W) (μ : XS) (xE : String × (Nat → Int32) × (Nat → Nat) × (Nat → Nat) × (Int32) × (Nat → Int32) × (Nat → Int32) × (Int32) × (Nat → Int32) × (Nat → Int32)) (sz : Nat) (L : List GS) (S0 S1 : Option GS) (hRep : Rep t e0 T L (x_sl μ) S0 S1) (hnL : x_lsize μ = nI L.length) (h : f_X4_fill μ = some (.inr xE)) : vx_Met l yX4_fill (ws_ yX4_fill cX4_fill 2 (some .int)) rx_X4_fill (PM z0 D t [.ref (x0)] (XW x0 s0 s1 e0 E A B G T t μ) (XL x0 s0 s1 e0 E A B G T μ) sz) (fun _ _ _ _ => False) (XM xE.1 D (XW x0 s0 s1 e0 E A B G T t (x_length μ, x_codes μ, x_rest μ, xE.2.1, xE.2.2.1, xE.2.2.2.1, xE.2.2.2.2.1, xE.2.2.2.2.2.1, xE.2.2.2.2.2.2.1, xE.2.2.2.2.2.2.2.1, xE.2.2.2.2.2.2.2.2.1, xE.2.2.2.2.2.2.2.2.2, x_wide μ, x_high μ, x_pond μ, x_walls μ, x_paved μ, x_tc μ, x_flips μ, x_refused μ, x_names μ, x_sl μ, x_lmod μ, x_lsize μ)) (XL x0 s0 s1 e0 E A B G T μ) sz) 4 46 (OA (XL x0 s0 s1 e0 E A B G T μ) sz) := by
  refine vx_ofW (cc := cX4_fill) (maxL := 2) (ret := (some .int)) (by decide) rfl ?_
  intro p e s m args below meth c s₁ Bo hml hT hv
  obtain ⟨rfl, hC, hsz, hP, hD, hZ⟩ := hv
  have hx := Bo.exec
  have hb := Bo.bytes
  have hr := Bo.returns
  have hts : ∀ w ∈ LA, w.before _ s = true := fun w hw => atoms_spec (ws := ws_ yX4_fill cX4_fill 2 (some .int)) Bo.pre w (List.mem_cons_of_mem _ hw)
  have hown : s.vm.findClass RX4 = some m.cls := findClass_of_methodNamed Bo.named
  have hlocks := Bo.notSynchronized
  have hK := hC.1
  subst hsz
  have hl := lv_entry ([.ref (x0)]) (n := 2) (Nat.le_of_ble_eq_true rfl)
  rw [lg_entry_eq]
  generalize (lg_sl ([.ref (x0)]) ++ List.replicate (2 - (lg_sl ([.ref (x0)])).length) Slot.unset).toArray = ls at hl ⊢
  have hl : lv_has ls 2 [(0, .ref (x0))] := hl
  suffices K9 : ∀ (H : Heap) (locs : List Loc), va_P D vwCl (XW x0 s0 s1 e0 E A B G T t μ) H → va_S (OA (XL x0 s0 s1 e0 E A B G T μ) s.heap.size) s.heap H locs → W p l e (headSpec (ws_ yX4_fill cX4_fill 2 (some .int)) rx_X4_fill).room s m ([.ref (x0)] : List Value).toArray below meth c H locs 0 0 (vx_MQ below (fun _ _ _ _ => False) (XM xE.1 D (XW x0 s0 s1 e0 E A B G T t (x_length μ, x_codes μ, x_rest μ, xE.2.1, xE.2.2.1, xE.2.2.2.1, xE.2.2.2.2.1, xE.2.2.2.2.2.1, xE.2.2.2.2.2.2.1, xE.2.2.2.2.2.2.2.1, xE.2.2.2.2.2.2.2.2.1, xE.2.2.2.2.2.2.2.2.2, x_wide μ, x_high μ, x_pond μ, x_walls μ, x_paved μ, x_tc μ, x_flips μ, x_refused μ, x_names μ, x_sl μ, x_lmod μ, x_lsize μ)) (XL x0 s0 s1 e0 E A B G T μ) s.heap.size) ([.ref (x0)] : List Value).toArray s 4 46 (OA (XL x0 s0 s1 e0 E A B G T μ) s.heap.size)) (F0 m 0 ls []) from K9 s.heap [] hP va_S.rf
  intro H locs hP hS
  have hSz : s.heap.size ≤ H.size := hS.1
  unfold f_X4_fill at h
  refine lv_aload_n hx hb dX4_fill_0 rfl (lv_at hl 0 rfl) ?_
  refine va_get hx hb hts inX4 hown hK hP 0 rfl rfl 3 (by decide) (hts _ qw160) (fun _ h9 => h9) rfl dX4_fill_1 ?_
  refine lv_aload_n hx hb dX4_fill_4 rfl (lv_at hl 0 rfl) ?_
  refine va_get hx hb hts inX4 hown hK hP 0 rfl rfl 4 (by decide) (hts _ qw161) (fun _ h9 => h9) rfl dX4_fill_5 ?_
  obtain ⟨r1, er1, h⟩ := obind h
  refine call_R (va_runV (As := []) (rest := [.ref (A 0)]) ⟨hx, hb, hml, hown, hts⟩ (c_X1_freeCells l z0 D t G ((x_wide μ), (x_high μ), (x_pond μ), (x_walls μ), (x_paved μ), (x_tc μ), (x_flips μ), (x_refused μ), (x_names μ)) _ er1) (kV hts qw242 qw243 qw244 qw8 qw245 ok_X1_freeCells ⟨Nat.le_of_ble_eq_true rfl, Nat.le_of_ble_eq_true rfl⟩) ⟨PR.blind, va_recv hK (sub_X_G (μ := μ) hP) (ci := 2) (q0 := 0) rfl rfl, fun U hU hW => ⟨rfl, by rw [hU]; exact (hC.at hS hZ).warm hW, by rw [hU]; exact (sub_X_G (μ := μ) hP)⟩⟩ rfl rfl hl.1 rfl (lv_room (Nat.le_of_ble_eq_true rfl)) dX4_fill_8 ⟨Nat.le_of_ble_eq_true rfl, Nat.le_of_ble_eq_true rfl⟩) ?_
  obtain ⟨r2, er2, h⟩ := obind h
  refine call_M (va_runV (As := [.long r1]) (rest := []) ⟨hx, hb, hml, hown, hts⟩ (c_X2_waysToPave l z0 D t A B ((x_rest μ), (x_takes μ), (x_u1 μ), (x_u2 μ), (x_hsz μ), (x_hwin μ), (x_hway μ), (x_nsz μ), (x_nwin μ), (x_nway μ)) r1 _ H.size er2) (kV hts qw255 qw256 qw257 qw6 qw258 ok_X2_waysToPave ⟨Nat.le_of_ble_eq_true rfl, Nat.le_of_ble_eq_true rfl⟩) ⟨PM.blind, va_recv hK (sub_X_V (μ := μ) hP) (ci := 3) (q0 := 0) rfl rfl, fun U hU hW => ⟨rfl, by rw [hU]; exact (hC.at hS hZ).warm hW, by rw [hU], by rw [hU]; exact (sub_X_V (μ := μ) hP), ⟨(subD_X_V (μ := μ) hD).1, fun _ _ h9 => Or.inl (in_map (L := (VL A B ((x_rest μ), (x_takes μ), (x_u1 μ), (x_u2 μ), (x_hsz μ), (x_hwin μ), (x_hway μ), (x_nsz μ), (x_nwin μ), (x_nway μ)))) rfl h9)⟩, fun q hq => hZ q (OA.ofD (subD_X_V (μ := μ) hD) rfl hSz q hq)⟩⟩ rfl rfl hl.1 rfl (lv_room (Nat.le_of_ble_eq_true rfl)) dX4_fill_11 ⟨Nat.le_of_ble_eq_true rfl, Nat.le_of_ble_eq_true rfl⟩) hS (OA.ofD (subD_X_V (μ := μ) hD) rfl hSz) (fun H locs hP1 hD1 hS _ hk1 => ?_)
  obtain ⟨hP, hD⟩ := back_X_V (μ := μ) hP hD hk1 (OA.ofD (subD_X_V (μ := μ) hD) rfl hSz) hP1 hD1
  have hP : va_P D vwCl (XW x0 s0 s1 e0 E A B G T t (x_length μ, x_codes μ, x_rest μ, r2.2.1, r2.2.2.1, r2.2.2.2.1, r2.2.2.2.2.1, r2.2.2.2.2.2.1, r2.2.2.2.2.2.2.1, r2.2.2.2.2.2.2.2.1, r2.2.2.2.2.2.2.2.2.1, r2.2.2.2.2.2.2.2.2.2, x_wide μ, x_high μ, x_pond μ, x_walls μ, x_paved μ, x_tc μ, x_flips μ, x_refused μ, x_names μ, x_sl μ, x_lmod μ, x_lsize μ)) H := hP
  have hD : va_D (OA (XL x0 s0 s1 e0 E A B G T μ) s.heap.size) (XW x0 s0 s1 e0 E A B G T t (x_length μ, x_codes μ, x_rest μ, r2.2.1, r2.2.2.1, r2.2.2.2.1, r2.2.2.2.2.1, r2.2.2.2.2.2.1, r2.2.2.2.2.2.2.1, r2.2.2.2.2.2.2.2.1, r2.2.2.2.2.2.2.2.2.1, r2.2.2.2.2.2.2.2.2.2, x_wide μ, x_high μ, x_pond μ, x_walls μ, x_paved μ, x_tc μ, x_flips μ, x_refused μ, x_names μ, x_sl μ, x_lmod μ, x_lsize μ)) := hD
  have hSz : s.heap.size ≤ H.size := hS.1
  refine lv_if_ne (tgt := 27) hx hb dX4_fill_14 (by decide) (fun hc => ?_) (fun hc => ?_)
  · have h := iteF hc h
    refine lv_aload_n hx hb dX4_fill_27 rfl (lv_at hl 0 rfl) ?_
    obtain ⟨r3, er3, h⟩ := obind h
    refine call_S (va_runV (As := []) (rest := []) ⟨hx, hb, hml, hown, hts⟩ (c_X4_saveState l z0 D t x0 s0 s1 e0 E A B G T (x_length μ, x_codes μ, x_rest μ, r2.2.1, r2.2.2.1, r2.2.2.2.1, r2.2.2.2.2.1, r2.2.2.2.2.2.1, r2.2.2.2.2.2.2.1, r2.2.2.2.2.2.2.2.1, r2.2.2.2.2.2.2.2.2.1, r2.2.2.2.2.2.2.2.2.2, x_wide μ, x_high μ, x_pond μ, x_walls μ, x_paved μ, x_tc μ, x_flips μ, x_refused μ, x_names μ, x_sl μ, x_lmod μ, x_lsize μ) L S0 S1 H.size hRep hnL) (kV hts qw662 qw664 qs23 qw1 qw665 ok_X4_saveState ⟨Nat.le_of_ble_eq_true rfl, Nat.le_of_ble_eq_true rfl⟩) ⟨PM.blind, va_recv hK hP (ci := 5) (q0 := 0) rfl rfl, fun U hU hW => ⟨rfl, by rw [hU]; exact (hC.at hS hZ).warm hW, by rw [hU], by rw [hU]; exact hP, ⟨hD.1, fun _ _ h9 => Or.inl (in_map (L := (XL x0 s0 s1 e0 E A B G T (x_length μ, x_codes μ, x_rest μ, r2.2.1, r2.2.2.1, r2.2.2.2.1, r2.2.2.2.2.1, r2.2.2.2.2.2.1, r2.2.2.2.2.2.2.1, r2.2.2.2.2.2.2.2.1, r2.2.2.2.2.2.2.2.2.1, r2.2.2.2.2.2.2.2.2.2, x_wide μ, x_high μ, x_pond μ, x_walls μ, x_paved μ, x_tc μ, x_flips μ, x_refused μ, x_names μ, x_sl μ, x_lmod μ, x_lsize μ))) rfl h9)⟩, fun q hq => hZ q (OA.ofD hD rfl hSz q hq)⟩⟩ rfl rfl hl.1 rfl (lv_room (Nat.le_of_ble_eq_true rfl)) dX4_fill_28 ⟨Nat.le_of_ble_eq_true rfl, Nat.le_of_ble_eq_true rfl⟩) hS (OA.ofD hD rfl hSz) (fun e1 T1 H locs hRp hP hD1 hS _ _ => ?_)
    have hP : va_P D vwCl (XW x0 s0 s1 e1 E A B G T1 t (svX (x_length μ, x_codes μ, x_rest μ, r2.2.1, r2.2.2.1, r2.2.2.2.1, r2.2.2.2.2.1, r2.2.2.2.2.2.1, r2.2.2.2.2.2.2.1, r2.2.2.2.2.2.2.2.1, r2.2.2.2.2.2.2.2.2.1, r2.2.2.2.2.2.2.2.2.2, x_wide μ, x_high μ, x_pond μ, x_walls μ, x_paved μ, x_tc μ, x_flips μ, x_refused μ, x_names μ, x_sl μ, x_lmod μ, x_lsize μ))) H := hP
    rw [svX_eq er3] at hP hD1
    have hP : va_P D vwCl (XW x0 s0 s1 e1 E A B G T1 t (x_length μ, x_codes μ, x_rest μ, r2.2.1, r2.2.2.1, r2.2.2.2.1, r2.2.2.2.2.1, r2.2.2.2.2.2.1, r2.2.2.2.2.2.2.1, r2.2.2.2.2.2.2.2.1, r2.2.2.2.2.2.2.2.2.1, r2.2.2.2.2.2.2.2.2.2, x_wide μ, x_high μ, x_pond μ, x_walls μ, x_paved μ, x_tc μ, x_flips μ, x_refused μ, x_names μ, x_sl μ, r3.1, r3.2)) H := hP
    have hD : va_D (OA (XL x0 s0 s1 e0 E A B G T μ) s.heap.size) (XW x0 s0 s1 e1 E A B G T1 t (x_length μ, x_codes μ, x_rest μ, r2.2.1, r2.2.2.1, r2.2.2.2.1, r2.2.2.2.2.1, r2.2.2.2.2.2.1, r2.2.2.2.2.2.2.1, r2.2.2.2.2.2.2.2.1, r2.2.2.2.2.2.2.2.2.1, r2.2.2.2.2.2.2.2.2.2, x_wide μ, x_high μ, x_pond μ, x_walls μ, x_paved μ, x_tc μ, x_flips μ, x_refused μ, x_names μ, x_sl μ, r3.1, r3.2)) := hD1.weaken (fun _ q _ h9 => OA.ofD hD rfl hSz q.1 h9)
    have hSz : s.heap.size ≤ H.size := hS.1
    refine W.widen (k := 3) (n := 40) (by omega) (by omega) ?_
    refine lv_aload_n hx hb dX4_fill_31 rfl (lv_at hl 0 rfl) ?_
    refine va_get hx hb hts inX4 hown hK hP 0 rfl rfl 4 (by decide) (hts _ qw161) (fun _ h9 => h9) rfl dX4_fill_32 ?_
    refine va_get hx hb hts inX1 hown hK hP 13 rfl rfl 5 (by decide) (hts _ qw132) (fun _ h9 => h9) rfl dX4_fill_35 ?_
    obtain ⟨x4, ex4, h⟩ := jlet_some h
    refine topI ex4 ?_
    refine lv_istore_n (lv' := [(1, .int x4), (0, .ref (x0))]) hx hb dX4_fill_38 rfl hl (by decide) rfl (fun ls hl => ?_)
    refine lv_aload_n hx hb dX4_fill_39 rfl (lv_at hl 1 rfl) ?_
    refine va_get hx hb hts inX4 hown hK hP 0 rfl rfl 3 (by decide) (hts _ qw160) (fun _ h9 => h9) rfl dX4_fill_40 ?_
    refine lv_aload_n hx hb dX4_fill_43 rfl (lv_at hl 1 rfl) ?_
    refine va_get hx hb hts inX4 hown hK hP 0 rfl rfl 4 (by decide) (hts _ qw161) (fun _ h9 => h9) rfl dX4_fill_44 ?_
    obtain ⟨r5, er5, h⟩ := obind h
    refine call_M (va_runV (As := [.ref (G 0)]) (rest := []) ⟨hx, hb, hml, hown, hts⟩ (c_X2_paveFirstWay l z0 D t A B G ((x_rest μ), r2.2.1, r2.2.2.1, r2.2.2.2.1, r2.2.2.2.2.1, r2.2.2.2.2.2.1, r2.2.2.2.2.2.2.1, r2.2.2.2.2.2.2.2.1, r2.2.2.2.2.2.2.2.2.1, r2.2.2.2.2.2.2.2.2.2, (x_wide μ), (x_high μ), (x_pond μ), (x_walls μ), (x_paved μ), (x_tc μ), (x_flips μ), (x_refused μ), (x_names μ)) _ H.size er5) (kV hts qw829 qw830 qw831 qw6 qw832 ok_X2_paveFirstWay ⟨Nat.le_of_ble_eq_true rfl, Nat.le_of_ble_eq_true rfl⟩) ⟨PM.blind, va_recv hK (sub_X_VG (μ := (x_length μ, x_codes μ, x_rest μ, r2.2.1, r2.2.2.1, r2.2.2.2.1, r2.2.2.2.2.1, r2.2.2.2.2.2.1, r2.2.2.2.2.2.2.1, r2.2.2.2.2.2.2.2.1, r2.2.2.2.2.2.2.2.2.1, r2.2.2.2.2.2.2.2.2.2, x_wide μ, x_high μ, x_pond μ, x_walls μ, x_paved μ, x_tc μ, x_flips μ, x_refused μ, x_names μ, x_sl μ, r3.1, r3.2)) hP) (ci := 3) (q0 := 0) rfl rfl, fun U hU hW => ⟨rfl, by rw [hU]; exact (hC.at hS hZ).warm hW, by rw [hU], by rw [hU]; exact (sub_X_VG (μ := (x_length μ, x_codes μ, x_rest μ, r2.2.1, r2.2.2.1, r2.2.2.2.1, r2.2.2.2.2.1, r2.2.2.2.2.2.1, r2.2.2.2.2.2.2.1, r2.2.2.2.2.2.2.2.1, r2.2.2.2.2.2.2.2.2.1, r2.2.2.2.2.2.2.2.2.2, x_wide μ, x_high μ, x_pond μ, x_walls μ, x_paved μ, x_tc μ, x_flips μ, x_refused μ, x_names μ, x_sl μ, r3.1, r3.2)) hP), ⟨(subD_X_VG (μ := (x_length μ, x_codes μ, x_rest μ, r2.2.1, r2.2.2.1, r2.2.2.2.1, r2.2.2.2.2.1, r2.2.2.2.2.2.1, r2.2.2.2.2.2.2.1, r2.2.2.2.2.2.2.2.1, r2.2.2.2.2.2.2.2.2.1, r2.2.2.2.2.2.2.2.2.2, x_wide μ, x_high μ, x_pond μ, x_walls μ, x_paved μ, x_tc μ, x_flips μ, x_refused μ, x_names μ, x_sl μ, r3.1, r3.2)) hD).1, fun _ _ h9 => Or.inl (in_map (L := (VGL A B G ((x_rest μ), r2.2.1, r2.2.2.1, r2.2.2.2.1, r2.2.2.2.2.1, r2.2.2.2.2.2.1, r2.2.2.2.2.2.2.1, r2.2.2.2.2.2.2.2.1, r2.2.2.2.2.2.2.2.2.1, r2.2.2.2.2.2.2.2.2.2, (x_wide μ), (x_high μ), (x_pond μ), (x_walls μ), (x_paved μ), (x_tc μ), (x_flips μ), (x_refused μ), (x_names μ)))) rfl h9)⟩, fun q hq => hZ q (OA.ofD (subD_X_VG (μ := (x_length μ, x_codes μ, x_rest μ, r2.2.1, r2.2.2.1, r2.2.2.2.1, r2.2.2.2.2.1, r2.2.2.2.2.2.1, r2.2.2.2.2.2.2.1, r2.2.2.2.2.2.2.2.1, r2.2.2.2.2.2.2.2.2.1, r2.2.2.2.2.2.2.2.2.2, x_wide μ, x_high μ, x_pond μ, x_walls μ, x_paved μ, x_tc μ, x_flips μ, x_refused μ, x_names μ, x_sl μ, r3.1, r3.2)) hD) rfl hSz q hq)⟩⟩ rfl rfl hl.1 rfl (lv_room (Nat.le_of_ble_eq_true rfl)) dX4_fill_47 ⟨Nat.le_of_ble_eq_true rfl, Nat.le_of_ble_eq_true rfl⟩) hS (OA.ofD (subD_X_VG (μ := (x_length μ, x_codes μ, x_rest μ, r2.2.1, r2.2.2.1, r2.2.2.2.1, r2.2.2.2.2.1, r2.2.2.2.2.2.1, r2.2.2.2.2.2.2.1, r2.2.2.2.2.2.2.2.1, r2.2.2.2.2.2.2.2.2.1, r2.2.2.2.2.2.2.2.2.2, x_wide μ, x_high μ, x_pond μ, x_walls μ, x_paved μ, x_tc μ, x_flips μ, x_refused μ, x_names μ, x_sl μ, r3.1, r3.2)) hD) rfl hSz) (fun H locs hP1 hD1 hS _ hk1 => ?_)
    obtain ⟨hP, hD⟩ := back_X_VG (μ := (x_length μ, x_codes μ, x_rest μ, r2.2.1, r2.2.2.1, r2.2.2.2.1, r2.2.2.2.2.1, r2.2.2.2.2.2.1, r2.2.2.2.2.2.2.1, r2.2.2.2.2.2.2.2.1, r2.2.2.2.2.2.2.2.2.1, r2.2.2.2.2.2.2.2.2.2, x_wide μ, x_high μ, x_pond μ, x_walls μ, x_paved μ, x_tc μ, x_flips μ, x_refused μ, x_names μ, x_sl μ, r3.1, r3.2)) hP hD hk1 (OA.ofD (subD_X_VG (μ := (x_length μ, x_codes μ, x_rest μ, r2.2.1, r2.2.2.1, r2.2.2.2.1, r2.2.2.2.2.1, r2.2.2.2.2.2.1, r2.2.2.2.2.2.2.1, r2.2.2.2.2.2.2.2.1, r2.2.2.2.2.2.2.2.2.1, r2.2.2.2.2.2.2.2.2.2, x_wide μ, x_high μ, x_pond μ, x_walls μ, x_paved μ, x_tc μ, x_flips μ, x_refused μ, x_names μ, x_sl μ, r3.1, r3.2)) hD) rfl hSz) hP1 hD1
    have hP : va_P D vwCl (XW x0 s0 s1 e1 E A B G T1 t (x_length μ, x_codes μ, r5.1, r5.2.1, r2.2.2.1, r2.2.2.2.1, r2.2.2.2.2.1, r2.2.2.2.2.2.1, r2.2.2.2.2.2.2.1, r2.2.2.2.2.2.2.2.1, r2.2.2.2.2.2.2.2.2.1, r2.2.2.2.2.2.2.2.2.2, x_wide μ, x_high μ, x_pond μ, x_walls μ, r5.2.2.1, r5.2.2.2.1, x_flips μ, x_refused μ, r5.2.2.2.2, x_sl μ, r3.1, r3.2)) H := hP
    have hD : va_D (OA (XL x0 s0 s1 e0 E A B G T μ) s.heap.size) (XW x0 s0 s1 e1 E A B G T1 t (x_length μ, x_codes μ, r5.1, r5.2.1, r2.2.2.1, r2.2.2.2.1, r2.2.2.2.2.1, r2.2.2.2.2.2.1, r2.2.2.2.2.2.2.1, r2.2.2.2.2.2.2.2.1, r2.2.2.2.2.2.2.2.2.1, r2.2.2.2.2.2.2.2.2.2, x_wide μ, x_high μ, x_pond μ, x_walls μ, r5.2.2.1, r5.2.2.2.1, x_flips μ, x_refused μ, r5.2.2.2.2, x_sl μ, r3.1, r3.2)) := hD
    have hSz : s.heap.size ≤ H.size := hS.1
    refine lv_aload_n hx hb dX4_fill_50 rfl (lv_at hl 1 rfl) ?_
    refine va_get hx hb hts inX4 hown hK hP 0 rfl rfl 4 (by decide) (hts _ qw161) (fun _ h9 => h9) rfl dX4_fill_51 ?_
    refine va_get hx hb hts inX1 hown hK hP 13 rfl rfl 5 (by decide) (hts _ qw132) (fun _ h9 => h9) rfl dX4_fill_54 ?_
    refine lv_iload_n hx hb dX4_fill_57 rfl (lv_at hl 0 rfl) ?_
    refine lv_isub hx hb dX4_fill_58 ?_
    exact absurd (Option.some.inj h) (fun z => by cases z)
  · have h := iteT hc h
    obtain rfl := Sum.inr.inj (Option.some.inj h)
    obtain ⟨sa, hsa⟩ := hC.2.2.2.2.2.1 ("BentGardens", 153, "there is no way") (by decide +kernel)
    refine vx_throwS hx hb hl9 hown (cls := "java/lang/IllegalStateException") (names := ["java/lang/RuntimeException", "java/lang/Exception"]) (by decide) (by decide) (hts _ qw755) (hts _ qw21) hsa (at_words hts hC.2.1 at_IllegalStateException) ato_IllegalStateException (hC.2.2.2.2.2.2.2.1.narrow hZ) (hC.2.2.2.2.2.2.2.2.1.narrow hZ) hS (hl.1.trans hml.symm) dX4_fill_17 dX4_fill_20 dX4_fill_21 dX4_fill_23 dX4_fill_26 (fun x9 hx9 => (hT x9 hx9).elim) (Nat.le_of_ble_eq_true rfl) (Nat.le_of_ble_eq_true rfl) (Nat.le_of_ble_eq_true rfl) (Nat.le_of_ble_eq_true rfl) hlocks (fun t9 _ h8 h9 => XM.mk hP hD hS h8 h9) hS.2.2 (Nat.le_of_ble_eq_true rfl) (Nat.le_of_ble_eq_true rfl)

abbrev rm_X4_halve : Room := { frames := 10, cells := 3, slots := 40, locals := 340 }
theorem ok_X4_halve : okY yX4_halve 0 := ⟨by decide +kernel, by decide +kernel, by decide +kernel⟩
set_option maxHeartbeats 4000000 in
set_option maxRecDepth 100000 in
theorem c_X4_halve (l : Launch) (z0 : Nat) (D : va_G) (t : Nat → ClassId) (x0 : Nat) (s0 : Nat) (s1 : Nat) (e0 : Nat) (E : Nat → Nat) (A : Nat → Nat) (B : Nat → Nat) (G : Nat → Nat) (T : va_W) (μ : XS) (res : Int32 × (Int64) × (Int32) × (Nat → Int32) × (Int32) × (Int32)) (sz : Nat) (L : List GS) (S0 S1 : Option GS) (hRep : Rep t e0 T L (x_sl μ) S0 S1) (hnL : x_lsize μ = nI L.length) (h : f_X4_halve μ = some (.inl res)) : Met l yX4_halve (ws_ yX4_halve cX4_halve 1 (some .int)) rm_X4_halve (PM z0 D t [.ref (x0)] (XW x0 s0 s1 e0 E A B G T t μ) (XL x0 s0 s1 e0 E A B G T μ) sz) (QS (some (.int res.1)) D (fun e T => (XW x0 s0 s1 e E A B G T t (x_length μ, x_codes μ, x_rest μ, x_takes μ, x_u1 μ, x_u2 μ, x_hsz μ, x_hwin μ, x_hway μ, x_nsz μ, x_nwin μ, x_nway μ, x_wide μ, x_high μ, x_pond μ, x_walls μ, res.2.1, res.2.2.1, x_flips μ, x_refused μ, res.2.2.2.1, x_sl μ, res.2.2.2.2.1, res.2.2.2.2.2))) (fun e T => Rep t e T (svL L (gsX μ)) (x_sl μ) S0 S1) (XL x0 s0 s1 e0 E A B G T μ) sz) 3 40 (OA (XL x0 s0 s1 e0 E A B G T μ) sz) := by
  refine Met.ofW (cc := cX4_halve) (maxL := 1) (ret := (some .int)) (by decide) rfl ?_
  intro p e s m args below meth c s₁ Bo hml hv
  obtain ⟨rfl, hC, hsz, hP, hD, hZ⟩ := hv
  have hx := Bo.exec
  have hb := Bo.bytes
  have hr := Bo.returns
  have hts : ∀ w ∈ LA, w.before _ s = true := fun w hw => atoms_spec (ws := ws_ yX4_halve cX4_halve 1 (some .int)) Bo.pre w (List.mem_cons_of_mem _ hw)
  have hown : s.vm.findClass RX4 = some m.cls := findClass_of_methodNamed Bo.named
  have hlocks := Bo.notSynchronized
  have hK := hC.1
  subst hsz
  have hl := lv_entry ([.ref (x0)]) (n := 1) (Nat.le_of_ble_eq_true rfl)
  rw [lg_entry_eq]
  generalize (lg_sl ([.ref (x0)]) ++ List.replicate (1 - (lg_sl ([.ref (x0)])).length) Slot.unset).toArray = ls at hl ⊢
  have hl : lv_has ls 1 [(0, .ref (x0))] := hl
  suffices K9 : ∀ (H : Heap) (locs : List Loc), va_P D vwCl (XW x0 s0 s1 e0 E A B G T t μ) H → va_S (OA (XL x0 s0 s1 e0 E A B G T μ) s.heap.size) s.heap H locs → W p l e (headSpec (ws_ yX4_halve cX4_halve 1 (some .int)) rm_X4_halve).room s m ([.ref (x0)] : List Value).toArray below meth c H locs 0 0 (MQ below (QS (some (.int res.1)) D (fun e T => (XW x0 s0 s1 e E A B G T t (x_length μ, x_codes μ, x_rest μ, x_takes μ, x_u1 μ, x_u2 μ, x_hsz μ, x_hwin μ, x_hway μ, x_nsz μ, x_nwin μ, x_nway μ, x_wide μ, x_high μ, x_pond μ, x_walls μ, res.2.1, res.2.2.1, x_flips μ, x_refused μ, res.2.2.2.1, x_sl μ, res.2.2.2.2.1, res.2.2.2.2.2))) (fun e T => Rep t e T (svL L (gsX μ)) (x_sl μ) S0 S1) (XL x0 s0 s1 e0 E A B G T μ) s.heap.size) ([.ref (x0)] : List Value).toArray s 3 40 (OA (XL x0 s0 s1 e0 E A B G T μ) s.heap.size)) (F0 m 0 ls []) from K9 s.heap [] hP va_S.rf
  intro H locs hP hS
  have hSz : s.heap.size ≤ H.size := hS.1
  unfold f_X4_halve at h
  refine lv_aload_n hx hb dX4_halve_0 rfl (lv_at hl 0 rfl) ?_
  refine va_get hx hb hts inX4 hown hK hP 0 rfl rfl 4 (by decide) (hts _ qw161) (fun _ h9 => h9) rfl dX4_halve_1 ?_
  obtain ⟨r1, er1, h⟩ := obind h
  refine call_R (va_runV (As := []) (rest := []) ⟨hx, hb, hml, hown, hts⟩ (c_X1_isHalvable l z0 D t G ((x_wide μ), (x_high μ), (x_pond μ), (x_walls μ), (x_paved μ), (x_tc μ), (x_flips μ), (x_refused μ), (x_names μ)) _ er1) (kV hts qw846 qw847 qw848 qw8 qw849 ok_X1_isHalvable ⟨Nat.le_of_ble_eq_true rfl, Nat.le_of_ble_eq_true rfl⟩) ⟨PR.blind, va_recv hK (sub_X_G (μ := μ) hP) (ci := 2) (q0 := 0) rfl rfl, fun U hU hW => ⟨rfl, by rw [hU]; exact (hC.at hS hZ).warm hW, by rw [hU]; exact (sub_X_G (μ := μ) hP)⟩⟩ rfl rfl hl.1 rfl (lv_room (Nat.le_of_ble_eq_true rfl)) dX4_halve_4 ⟨Nat.le_of_ble_eq_true rfl, Nat.le_of_ble_eq_true rfl⟩) ?_
  refine lv_if_ne (tgt := 20) hx hb dX4_halve_7 (by decide) (fun hc => ?_) (fun hc => ?_)
  · have h := iteF hc h
    refine lv_aload_n hx hb dX4_halve_20 rfl (lv_at hl 0 rfl) ?_
    obtain ⟨r2, er2, h⟩ := obind h
    refine call_S (va_runV (As := []) (rest := []) ⟨hx, hb, hml, hown, hts⟩ (c_X4_saveState l z0 D t x0 s0 s1 e0 E A B G T μ L S0 S1 H.size hRep hnL) (kV hts qw662 qw664 qs23 qw1 qw665 ok_X4_saveState ⟨Nat.le_of_ble_eq_true rfl, Nat.le_of_ble_eq_true rfl⟩) ⟨PM.blind, va_recv hK hP (ci := 5) (q0 := 0) rfl rfl, fun U hU hW => ⟨rfl, by rw [hU]; exact (hC.at hS hZ).warm hW, by rw [hU], by rw [hU]; exact hP, ⟨hD.1, fun _ _ h9 => Or.inl (in_map (L := (XL x0 s0 s1 e0 E A B G T μ)) rfl h9)⟩, fun q hq => hZ q (OA.ofD hD rfl hSz q hq)⟩⟩ rfl rfl hl.1 rfl (lv_room (Nat.le_of_ble_eq_true rfl)) dX4_halve_21 ⟨Nat.le_of_ble_eq_true rfl, Nat.le_of_ble_eq_true rfl⟩) hS (OA.ofD hD rfl hSz) (fun e1 T1 H locs hRp hP hD1 hS _ _ => ?_)
    have hP : va_P D vwCl (XW x0 s0 s1 e1 E A B G T1 t (svX μ)) H := hP
    rw [svX_eq er2] at hP hD1
    have hP : va_P D vwCl (XW x0 s0 s1 e1 E A B G T1 t (x_lsize' (x_lmod' μ r2.1) r2.2)) H := hP
    have hD : va_D (OA (XL x0 s0 s1 e0 E A B G T μ) s.heap.size) (XW x0 s0 s1 e1 E A B G T1 t (x_lsize' (x_lmod' μ r2.1) r2.2)) := hD1.weaken (fun _ q _ h9 => OA.ofD hD rfl hSz q.1 h9)
    have hSz : s.heap.size ≤ H.size := hS.1
    refine W.widen (k := 3) (n := 40) (by omega) (by omega) ?_
    refine lv_aload_n hx hb dX4_halve_24 rfl (lv_at hl 0 rfl) ?_
    refine va_get hx hb hts inX4 hown hK hP 0 rfl rfl 4 (by decide) (hts _ qw161) (fun _ h9 => h9) rfl dX4_halve_25 ?_
    obtain ⟨r3, er3, h⟩ := obind h
    refine call_M (va_runV (As := []) (rest := []) ⟨hx, hb, hml, hown, hts⟩ (c_X1_paveSquares l z0 D t G ((x_wide μ), (x_high μ), (x_pond μ), (x_walls μ), (x_paved μ), (x_tc μ), (x_flips μ), (x_refused μ), (x_names μ)) _ H.size er3) (kV hts qw851 qw852 qw853 qw8 qw854 ok_X1_paveSquares ⟨Nat.le_of_ble_eq_true rfl, Nat.le_of_ble_eq_true rfl⟩) ⟨PM.blind, va_recv hK (sub_X_G (μ := x_lsize' (x_lmod' μ r2.1) r2.2) hP) (ci := 2) (q0 := 0) rfl rfl, fun U hU hW => ⟨rfl, by rw [hU]; exact (hC.at hS hZ).warm hW, by rw [hU], by rw [hU]; exact (sub_X_G (μ := x_lsize' (x_lmod' μ r2.1) r2.2) hP), ⟨(subD_X_G (μ := x_lsize' (x_lmod' μ r2.1) r2.2) hD).1, fun _ _ h9 => Or.inl (in_map (L := (GL G)) rfl h9)⟩, fun q hq => hZ q (OA.ofD (subD_X_G (μ := x_lsize' (x_lmod' μ r2.1) r2.2) hD) rfl hSz q hq)⟩⟩ rfl rfl hl.1 rfl (lv_room (Nat.le_of_ble_eq_true rfl)) dX4_halve_28 ⟨Nat.le_of_ble_eq_true rfl, Nat.le_of_ble_eq_true rfl⟩) hS (OA.ofD (subD_X_G (μ := x_lsize' (x_lmod' μ r2.1) r2.2) hD) rfl hSz) (fun H locs hP1 hD1 hS _ hk1 => ?_)
    obtain ⟨hP, hD⟩ := back_X_G (μ := x_lsize' (x_lmod' μ r2.1) r2.2) hP hD hk1 hP1
    have hP : va_P D vwCl (XW x0 s0 s1 e1 E A B G T1 t (x_length μ, x_codes μ, x_rest μ, x_takes μ, x_u1 μ, x_u2 μ, x_hsz μ, x_hwin μ, x_hway μ, x_nsz μ, x_nwin μ, x_nway μ, x_wide μ, x_high μ, x_pond μ, x_walls μ, r3.1, r3.2.1, x_flips μ, x_refused μ, r3.2.2, x_sl μ, r2.1, r2.2)) H := hP
    have hD : va_D (OA (XL x0 s0 s1 e0 E A B G T μ) s.heap.size) (XW x0 s0 s1 e1 E A B G T1 t (x_length μ, x_codes μ, x_rest μ, x_takes μ, x_u1 μ, x_u2 μ, x_hsz μ, x_hwin μ, x_hway μ, x_nsz μ, x_nwin μ, x_nway μ, x_wide μ, x_high μ, x_pond μ, x_walls μ, r3.1, r3.2.1, x_flips μ, x_refused μ, r3.2.2, x_sl μ, r2.1, r2.2)) := hD
    have hSz : s.heap.size ≤ H.size := hS.1
    refine lv_aload_n hx hb dX4_halve_31 rfl (lv_at hl 0 rfl) ?_
    refine va_get hx hb hts inX4 hown hK hP 0 rfl rfl 4 (by decide) (hts _ qw161) (fun _ h9 => h9) rfl dX4_halve_32 ?_
    refine va_get hx hb hts inX1 hown hK hP 13 rfl rfl 5 (by decide) (hts _ qw132) (fun _ h9 => h9) rfl dX4_halve_35 ?_
    obtain rfl := Sum.inl.inj (Option.some.inj h)
    exact W.iret hx hb hr (fun t ht hW => ⟨e1, T1, hRp, rfl, by rw [ht]; exact hP, hD, hS.F ht⟩) hS.2.2 dX4_halve_38
  · have h := iteT hc h
    exact absurd (Option.some.inj h) (fun z => by cases z)

abbrev rx_X4_halve : Room := { frames := 10, cells := 4, slots := 46, locals := 340 }
set_option maxHeartbeats 4000000 in
set_option maxRecDepth 100000 in
theorem x_X4_halve (l : Launch) (hl9 : l.stackTraces = false) (z0 : Nat) (D : va_G) (t : Nat → ClassId) (x0 : Nat) (s0 : Nat) (s1 : Nat) (e0 : Nat) (E : Nat → Nat) (A : Nat → Nat) (B : Nat → Nat) (G : Nat → Nat) (T : va_W) (μ : XS) (xE : String) (sz : Nat) (L : List GS) (S0 S1 : Option GS) (hRep : Rep t e0 T L (x_sl μ) S0 S1) (hnL : x_lsize μ = nI L.length) (h : f_X4_halve μ = some (.inr xE)) : vx_Met l yX4_halve (ws_ yX4_halve cX4_halve 1 (some .int)) rx_X4_halve (PM z0 D t [.ref (x0)] (XW x0 s0 s1 e0 E A B G T t μ) (XL x0 s0 s1 e0 E A B G T μ) sz) (fun _ _ _ _ => False) (XM xE D (XW x0 s0 s1 e0 E A B G T t μ) (XL x0 s0 s1 e0 E A B G T μ) sz) 4 46 (OA (XL x0 s0 s1 e0 E A B G T μ) sz) := by
  refine vx_ofW (cc := cX4_halve) (maxL := 1) (ret := (some .int)) (by decide) rfl ?_
  intro p e s m args below meth c s₁ Bo hml hT hv
  obtain ⟨rfl, hC, hsz, hP, hD, hZ⟩ := hv
  have hx := Bo.exec
  have hb := Bo.bytes
  have hr := Bo.returns
  have hts : ∀ w ∈ LA, w.before _ s = true := fun w hw => atoms_spec (ws := ws_ yX4_halve cX4_halve 1 (some .int)) Bo.pre w (List.mem_cons_of_mem _ hw)
  have hown : s.vm.findClass RX4 = some m.cls := findClass_of_methodNamed Bo.named
  have hlocks := Bo.notSynchronized
  have hK := hC.1
  subst hsz
  have hl := lv_entry ([.ref (x0)]) (n := 1) (Nat.le_of_ble_eq_true rfl)
  rw [lg_entry_eq]
  generalize (lg_sl ([.ref (x0)]) ++ List.replicate (1 - (lg_sl ([.ref (x0)])).length) Slot.unset).toArray = ls at hl ⊢
  have hl : lv_has ls 1 [(0, .ref (x0))] := hl
  suffices K9 : ∀ (H : Heap) (locs : List Loc), va_P D vwCl (XW x0 s0 s1 e0 E A B G T t μ) H → va_S (OA (XL x0 s0 s1 e0 E A B G T μ) s.heap.size) s.heap H locs → W p l e (headSpec (ws_ yX4_halve cX4_halve 1 (some .int)) rx_X4_halve).room s m ([.ref (x0)] : List Value).toArray below meth c H locs 0 0 (vx_MQ below (fun _ _ _ _ => False) (XM xE D (XW x0 s0 s1 e0 E A B G T t μ) (XL x0 s0 s1 e0 E A B G T μ) s.heap.size) ([.ref (x0)] : List Value).toArray s 4 46 (OA (XL x0 s0 s1 e0 E A B G T μ) s.heap.size)) (F0 m 0 ls []) from K9 s.heap [] hP va_S.rf
  intro H locs hP hS
  have hSz : s.heap.size ≤ H.size := hS.1
  unfold f_X4_halve at h
  refine lv_aload_n hx hb dX4_halve_0 rfl (lv_at hl 0 rfl) ?_
  refine va_get hx hb hts inX4 hown hK hP 0 rfl rfl 4 (by decide) (hts _ qw161) (fun _ h9 => h9) rfl dX4_halve_1 ?_
  obtain ⟨r1, er1, h⟩ := obind h
  refine call_R (va_runV (As := []) (rest := []) ⟨hx, hb, hml, hown, hts⟩ (c_X1_isHalvable l z0 D t G ((x_wide μ), (x_high μ), (x_pond μ), (x_walls μ), (x_paved μ), (x_tc μ), (x_flips μ), (x_refused μ), (x_names μ)) _ er1) (kV hts qw846 qw847 qw848 qw8 qw849 ok_X1_isHalvable ⟨Nat.le_of_ble_eq_true rfl, Nat.le_of_ble_eq_true rfl⟩) ⟨PR.blind, va_recv hK (sub_X_G (μ := μ) hP) (ci := 2) (q0 := 0) rfl rfl, fun U hU hW => ⟨rfl, by rw [hU]; exact (hC.at hS hZ).warm hW, by rw [hU]; exact (sub_X_G (μ := μ) hP)⟩⟩ rfl rfl hl.1 rfl (lv_room (Nat.le_of_ble_eq_true rfl)) dX4_halve_4 ⟨Nat.le_of_ble_eq_true rfl, Nat.le_of_ble_eq_true rfl⟩) ?_
  refine lv_if_ne (tgt := 20) hx hb dX4_halve_7 (by decide) (fun hc => ?_) (fun hc => ?_)
  · have h := iteF hc h
    refine lv_aload_n hx hb dX4_halve_20 rfl (lv_at hl 0 rfl) ?_
    obtain ⟨r2, er2, h⟩ := obind h
    refine call_S (va_runV (As := []) (rest := []) ⟨hx, hb, hml, hown, hts⟩ (c_X4_saveState l z0 D t x0 s0 s1 e0 E A B G T μ L S0 S1 H.size hRep hnL) (kV hts qw662 qw664 qs23 qw1 qw665 ok_X4_saveState ⟨Nat.le_of_ble_eq_true rfl, Nat.le_of_ble_eq_true rfl⟩) ⟨PM.blind, va_recv hK hP (ci := 5) (q0 := 0) rfl rfl, fun U hU hW => ⟨rfl, by rw [hU]; exact (hC.at hS hZ).warm hW, by rw [hU], by rw [hU]; exact hP, ⟨hD.1, fun _ _ h9 => Or.inl (in_map (L := (XL x0 s0 s1 e0 E A B G T μ)) rfl h9)⟩, fun q hq => hZ q (OA.ofD hD rfl hSz q hq)⟩⟩ rfl rfl hl.1 rfl (lv_room (Nat.le_of_ble_eq_true rfl)) dX4_halve_21 ⟨Nat.le_of_ble_eq_true rfl, Nat.le_of_ble_eq_true rfl⟩) hS (OA.ofD hD rfl hSz) (fun e1 T1 H locs hRp hP hD1 hS _ _ => ?_)
    have hP : va_P D vwCl (XW x0 s0 s1 e1 E A B G T1 t (svX μ)) H := hP
    rw [svX_eq er2] at hP hD1
    have hP : va_P D vwCl (XW x0 s0 s1 e1 E A B G T1 t (x_lsize' (x_lmod' μ r2.1) r2.2)) H := hP
    have hD : va_D (OA (XL x0 s0 s1 e0 E A B G T μ) s.heap.size) (XW x0 s0 s1 e1 E A B G T1 t (x_lsize' (x_lmod' μ r2.1) r2.2)) := hD1.weaken (fun _ q _ h9 => OA.ofD hD rfl hSz q.1 h9)
    have hSz : s.heap.size ≤ H.size := hS.1
    refine W.widen (k := 3) (n := 40) (by omega) (by omega) ?_
    refine lv_aload_n hx hb dX4_halve_24 rfl (lv_at hl 0 rfl) ?_
    refine va_get hx hb hts inX4 hown hK hP 0 rfl rfl 4 (by decide) (hts _ qw161) (fun _ h9 => h9) rfl dX4_halve_25 ?_
    obtain ⟨r3, er3, h⟩ := obind h
    refine call_M (va_runV (As := []) (rest := []) ⟨hx, hb, hml, hown, hts⟩ (c_X1_paveSquares l z0 D t G ((x_wide μ), (x_high μ), (x_pond μ), (x_walls μ), (x_paved μ), (x_tc μ), (x_flips μ), (x_refused μ), (x_names μ)) _ H.size er3) (kV hts qw851 qw852 qw853 qw8 qw854 ok_X1_paveSquares ⟨Nat.le_of_ble_eq_true rfl, Nat.le_of_ble_eq_true rfl⟩) ⟨PM.blind, va_recv hK (sub_X_G (μ := x_lsize' (x_lmod' μ r2.1) r2.2) hP) (ci := 2) (q0 := 0) rfl rfl, fun U hU hW => ⟨rfl, by rw [hU]; exact (hC.at hS hZ).warm hW, by rw [hU], by rw [hU]; exact (sub_X_G (μ := x_lsize' (x_lmod' μ r2.1) r2.2) hP), ⟨(subD_X_G (μ := x_lsize' (x_lmod' μ r2.1) r2.2) hD).1, fun _ _ h9 => Or.inl (in_map (L := (GL G)) rfl h9)⟩, fun q hq => hZ q (OA.ofD (subD_X_G (μ := x_lsize' (x_lmod' μ r2.1) r2.2) hD) rfl hSz q hq)⟩⟩ rfl rfl hl.1 rfl (lv_room (Nat.le_of_ble_eq_true rfl)) dX4_halve_28 ⟨Nat.le_of_ble_eq_true rfl, Nat.le_of_ble_eq_true rfl⟩) hS (OA.ofD (subD_X_G (μ := x_lsize' (x_lmod' μ r2.1) r2.2) hD) rfl hSz) (fun H locs hP1 hD1 hS _ hk1 => ?_)
    obtain ⟨hP, hD⟩ := back_X_G (μ := x_lsize' (x_lmod' μ r2.1) r2.2) hP hD hk1 hP1
    have hP : va_P D vwCl (XW x0 s0 s1 e1 E A B G T1 t (x_length μ, x_codes μ, x_rest μ, x_takes μ, x_u1 μ, x_u2 μ, x_hsz μ, x_hwin μ, x_hway μ, x_nsz μ, x_nwin μ, x_nway μ, x_wide μ, x_high μ, x_pond μ, x_walls μ, r3.1, r3.2.1, x_flips μ, x_refused μ, r3.2.2, x_sl μ, r2.1, r2.2)) H := hP
    have hD : va_D (OA (XL x0 s0 s1 e0 E A B G T μ) s.heap.size) (XW x0 s0 s1 e1 E A B G T1 t (x_length μ, x_codes μ, x_rest μ, x_takes μ, x_u1 μ, x_u2 μ, x_hsz μ, x_hwin μ, x_hway μ, x_nsz μ, x_nwin μ, x_nway μ, x_wide μ, x_high μ, x_pond μ, x_walls μ, r3.1, r3.2.1, x_flips μ, x_refused μ, r3.2.2, x_sl μ, r2.1, r2.2)) := hD
    have hSz : s.heap.size ≤ H.size := hS.1
    refine lv_aload_n hx hb dX4_halve_31 rfl (lv_at hl 0 rfl) ?_
    refine va_get hx hb hts inX4 hown hK hP 0 rfl rfl 4 (by decide) (hts _ qw161) (fun _ h9 => h9) rfl dX4_halve_32 ?_
    refine va_get hx hb hts inX1 hown hK hP 13 rfl rfl 5 (by decide) (hts _ qw132) (fun _ h9 => h9) rfl dX4_halve_35 ?_
    exact absurd (Option.some.inj h) (fun z => by cases z)
  · have h := iteT hc h
    obtain rfl := Sum.inr.inj (Option.some.inj h)
    obtain ⟨sa, hsa⟩ := hC.2.2.2.2.2.1 ("BentGardens", 166, "the garden cannot be paved by squares") (by decide +kernel)
    refine vx_throwS hx hb hl9 hown (cls := "java/lang/IllegalStateException") (names := ["java/lang/RuntimeException", "java/lang/Exception"]) (by decide) (by decide) (hts _ qw755) (hts _ qw21) hsa (at_words hts hC.2.1 at_IllegalStateException) ato_IllegalStateException (hC.2.2.2.2.2.2.2.1.narrow hZ) (hC.2.2.2.2.2.2.2.2.1.narrow hZ) hS (hl.1.trans hml.symm) dX4_halve_10 dX4_halve_13 dX4_halve_14 dX4_halve_16 dX4_halve_19 (fun x9 hx9 => (hT x9 hx9).elim) (Nat.le_of_ble_eq_true rfl) (Nat.le_of_ble_eq_true rfl) (Nat.le_of_ble_eq_true rfl) (Nat.le_of_ble_eq_true rfl) hlocks (fun t9 _ h8 h9 => XM.mk hP hD hS h8 h9) hS.2.2 (Nat.le_of_ble_eq_true rfl) (Nat.le_of_ble_eq_true rfl)
