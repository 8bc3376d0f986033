abbrev rm_X4_forced : Room := { frames := 6, cells := 0, slots := 0, locals := 137 }
theorem ok_X4_forced : okY yX4_forced 1 := ⟨by decide +kernel, by decide +kernel, by decide +kernel⟩
set_option maxHeartbeats 4000000 in
set_option maxRecDepth 100000 in
theorem c_X4_forced (l : Launch) (z0 : Nat) (D : va_G) (t : Nat → ClassId) (x0 : Nat) (s0 : Nat) (s1 : Nat) (e0 : Nat) (E : Nat → Nat) (A : Nat → Nat) (B : Nat → Nat) (G : Nat → Nat) (T : va_W) (μ : XS) (a1 : Int32) (res : Int32) (h : f_X4_forced μ a1 = some (.inl res)) : Met l yX4_forced (ws_ yX4_forced cX4_forced 3 (some .int)) rm_X4_forced (PR z0 D t [.ref (x0), .int a1] (XW x0 s0 s1 e0 E A B G T t μ)) (QR (some (.int res))) 0 0 FN := by
  refine Met.ofW (cc := cX4_forced) (maxL := 3) (ret := (some .int)) (by decide) rfl ?_
  intro p e s m args below meth c s₁ Bo hml hv
  obtain ⟨rfl, hC, hP⟩ := hv
  have hx := Bo.exec
  have hb := Bo.bytes
  have hr := Bo.returns
  have hts : ∀ w ∈ LA, w.before _ s = true := fun w hw => atoms_spec (ws := ws_ yX4_forced cX4_forced 3 (some .int)) Bo.pre w (List.mem_cons_of_mem _ hw)
  have hown : s.vm.findClass RX4 = some m.cls := findClass_of_methodNamed Bo.named
  have hlocks := Bo.notSynchronized
  have hK := hC.1
  have hl := lv_entry ([.ref (x0), .int a1]) (n := 3) (Nat.le_of_ble_eq_true rfl)
  rw [lg_entry_eq]
  generalize (lg_sl ([.ref (x0), .int a1]) ++ List.replicate (3 - (lg_sl ([.ref (x0), .int a1])).length) Slot.unset).toArray = ls at hl ⊢
  have hl : lv_has ls 3 [(0, .ref (x0)), (1, .int a1)] := hl
  unfold f_X4_forced at h
  refine lv_iload_n hx hb dX4_forced_0 rfl (lv_at hl 1 rfl) ?_
  refine lv_if_eq (tgt := 20) hx hb dX4_forced_1 (by decide) (fun hc => ?_) (fun hc => ?_)
  · have h := iteT hc h
    refine lv_aload_n hx hb dX4_forced_20 rfl (lv_at hl 0 rfl) ?_
    refine va_get hx hb hts inX4 hown hK hP 0 rfl rfl 4 (by decide) (hts _ qw161) (fun _ h9 => h9) rfl dX4_forced_21 ?_
    refine lv_iconst (v := (1)) hx hb dX4_forced_24 (by decide) ?_
    obtain ⟨r1, er1, h⟩ := obind h
    refine call_R (va_runV (As := [.int (1 : Int32)]) (rest := []) ⟨hx, hb, hml, hown, hts⟩ (c_X1_firstFreeWith l z0 D t G ((x_wide μ), (x_high μ), (x_pond μ), (x_walls μ), (x_paved μ), (x_tc μ), (x_flips μ), (x_refused μ), (x_names μ)) (1 : Int32) _ er1) (kV hts qw338 qw339 qw340 qw8 qw341 ok_X1_firstFreeWith ⟨Nat.le_of_ble_eq_true rfl, Nat.le_of_ble_eq_true rfl⟩) ⟨PR.blind, va_recv hK (sub_X_G (μ := μ) hP) (ci := 2) (q0 := 0) rfl rfl, fun U hU hW => ⟨rfl, by rw [hU]; exact hC.warm hW, by rw [hU]; exact (sub_X_G (μ := μ) hP)⟩⟩ rfl rfl hl.1 rfl (lv_room (Nat.le_of_ble_eq_true rfl)) dX4_forced_25 ⟨Nat.le_of_ble_eq_true rfl, Nat.le_of_ble_eq_true rfl⟩) ?_
    refine lv_istore_n (lv' := [(2, .int r1), (0, .ref (x0)), (1, .int a1)]) hx hb dX4_forced_28 rfl hl (by decide) rfl (fun ls hl => ?_)
    refine lv_iload_n hx hb dX4_forced_29 rfl (lv_at hl 0 rfl) ?_
    refine lv_iconst (v := (-1)) hx hb dX4_forced_30 (by decide) ?_
    refine lv_icmp_ne (tgt := 36) hx hb dX4_forced_31 (by decide) (fun hc => ?_) (fun hc => ?_)
    · have h := iteF hc h
      refine lv_iload_n hx hb dX4_forced_36 rfl (lv_at hl 2 rfl) ?_
      refine lv_if_ne (tgt := 47) hx hb dX4_forced_37 (by decide) (fun hc => ?_) (fun hc => ?_)
      · have h := iteF hc h
        refine lv_aload_n hx hb dX4_forced_47 rfl (lv_at hl 1 rfl) ?_
        refine va_get hx hb hts inX4 hown hK hP 0 rfl rfl 4 (by decide) (hts _ qw161) (fun _ h9 => h9) rfl dX4_forced_48 ?_
        refine lv_iload_n hx hb dX4_forced_51 rfl (lv_at hl 0 rfl) ?_
        obtain ⟨r2, er2, h⟩ := obind h
        refine call_R (va_runV (As := [.int r1]) (rest := []) ⟨hx, hb, hml, hown, hts⟩ (c_X1_firstCover l z0 D t G ((x_wide μ), (x_high μ), (x_pond μ), (x_walls μ), (x_paved μ), (x_tc μ), (x_flips μ), (x_refused μ), (x_names μ)) r1 _ er2) (kV hts qw626 qw627 qw628 qw8 qw629 ok_X1_firstCover ⟨Nat.le_of_ble_eq_true rfl, Nat.le_of_ble_eq_true rfl⟩) ⟨PR.blind, va_recv hK (sub_X_G (μ := μ) hP) (ci := 2) (q0 := 0) rfl rfl, fun U hU hW => ⟨rfl, by rw [hU]; exact hC.warm hW, by rw [hU]; exact (sub_X_G (μ := μ) hP)⟩⟩ rfl rfl hl.1 rfl (lv_room (Nat.le_of_ble_eq_true rfl)) dX4_forced_52 ⟨Nat.le_of_ble_eq_true rfl, Nat.le_of_ble_eq_true rfl⟩) ?_
        obtain rfl := Sum.inl.inj (Option.some.inj h)
        exact W.iret hx hb hr (fun t ht hW => ⟨rfl, ht⟩) (fun q hq => absurd hq List.not_mem_nil) dX4_forced_55
      · have h := iteT hc h
        refine lv_iload_n hx hb dX4_forced_40 rfl (lv_at hl 0 rfl) ?_
        obtain ⟨r3, er3, h⟩ := obind h
        refine call_R (va_runS (As := [.int r1]) (rest := []) ⟨hx, hb, hml, hown, hts⟩ (c_X4_cellName l z0 D t r1 _ er3) (kS hts qw367 qw368 qw1 qw369 ok_X4_cellName ⟨Nat.le_of_ble_eq_true rfl, Nat.le_of_ble_eq_true rfl⟩) ⟨PR.blind, fun U hU hW => ⟨rfl, by rw [hU]; exact hC.warm hW, by rw [hU]; exact va_P_nil⟩⟩ rfl rfl hl.1 rfl (lv_room (Nat.le_of_ble_eq_true rfl)) dX4_forced_41 ⟨Nat.le_of_ble_eq_true rfl, Nat.le_of_ble_eq_true rfl⟩) ?_
        refine lv_goto (tgt := 55) hx hb dX4_forced_44 (by decide) ?_
        obtain rfl := Sum.inl.inj (Option.some.inj h)
        exact W.iret hx hb hr (fun t ht hW => ⟨rfl, ht⟩) (fun q hq => absurd hq List.not_mem_nil) dX4_forced_55
    · have h := iteT hc h
      refine lv_iconst (v := (-1)) hx hb dX4_forced_34 (by decide) ?_
      obtain rfl := Sum.inl.inj (Option.some.inj h)
      exact W.iret hx hb hr (fun t ht hW => ⟨rfl, ht⟩) (fun q hq => absurd hq List.not_mem_nil) dX4_forced_35
  · have h := iteF hc h
    refine lv_iload_n hx hb dX4_forced_4 rfl (lv_at hl 1 rfl) ?_
    refine lv_iconst (v := (1)) hx hb dX4_forced_5 (by decide) ?_
    refine lv_icmp_eq (tgt := 20) hx hb dX4_forced_6 (by decide) (fun hc => ?_) (fun hc => ?_)
    · have h := iteT hc h
      refine lv_aload_n hx hb dX4_forced_20 rfl (lv_at hl 0 rfl) ?_
      refine va_get hx hb hts inX4 hown hK hP 0 rfl rfl 4 (by decide) (hts _ qw161) (fun _ h9 => h9) rfl dX4_forced_21 ?_
      refine lv_iconst (v := (1)) hx hb dX4_forced_24 (by decide) ?_
      obtain ⟨r4, er4, h⟩ := obind h
      refine call_R (va_runV (As := [.int (1 : Int32)]) (rest := []) ⟨hx, hb, hml, hown, hts⟩ (c_X1_firstFreeWith l z0 D t G ((x_wide μ), (x_high μ), (x_pond μ), (x_walls μ), (x_paved μ), (x_tc μ), (x_flips μ), (x_refused μ), (x_names μ)) (1 : Int32) _ er4) (kV hts qw338 qw339 qw340 qw8 qw341 ok_X1_firstFreeWith ⟨Nat.le_of_ble_eq_true rfl, Nat.le_of_ble_eq_true rfl⟩) ⟨PR.blind, va_recv hK (sub_X_G (μ := μ) hP) (ci := 2) (q0 := 0) rfl rfl, fun U hU hW => ⟨rfl, by rw [hU]; exact hC.warm hW, by rw [hU]; exact (sub_X_G (μ := μ) hP)⟩⟩ rfl rfl hl.1 rfl (lv_room (Nat.le_of_ble_eq_true rfl)) dX4_forced_25 ⟨Nat.le_of_ble_eq_true rfl, Nat.le_of_ble_eq_true rfl⟩) ?_
      refine lv_istore_n (lv' := [(2, .int r4), (0, .ref (x0)), (1, .int a1)]) hx hb dX4_forced_28 rfl hl (by decide) rfl (fun ls hl => ?_)
      refine lv_iload_n hx hb dX4_forced_29 rfl (lv_at hl 0 rfl) ?_
      refine lv_iconst (v := (-1)) hx hb dX4_forced_30 (by decide) ?_
      refine lv_icmp_ne (tgt := 36) hx hb dX4_forced_31 (by decide) (fun hc => ?_) (fun hc => ?_)
      · have h := iteF hc h
        refine lv_iload_n hx hb dX4_forced_36 rfl (lv_at hl 2 rfl) ?_
        refine lv_if_ne (tgt := 47) hx hb dX4_forced_37 (by decide) (fun hc => ?_) (fun hc => ?_)
        · have h := iteF hc h
          refine lv_aload_n hx hb dX4_forced_47 rfl (lv_at hl 1 rfl) ?_
          refine va_get hx hb hts inX4 hown hK hP 0 rfl rfl 4 (by decide) (hts _ qw161) (fun _ h9 => h9) rfl dX4_forced_48 ?_
          refine lv_iload_n hx hb dX4_forced_51 rfl (lv_at hl 0 rfl) ?_
          obtain ⟨r5, er5, h⟩ := obind h
          refine call_R (va_runV (As := [.int r4]) (rest := []) ⟨hx, hb, hml, hown, hts⟩ (c_X1_firstCover l z0 D t G ((x_wide μ), (x_high μ), (x_pond μ), (x_walls μ), (x_paved μ), (x_tc μ), (x_flips μ), (x_refused μ), (x_names μ)) r4 _ er5) (kV hts qw626 qw627 qw628 qw8 qw629 ok_X1_firstCover ⟨Nat.le_of_ble_eq_true rfl, Nat.le_of_ble_eq_true rfl⟩) ⟨PR.blind, va_recv hK (sub_X_G (μ := μ) hP) (ci := 2) (q0 := 0) rfl rfl, fun U hU hW => ⟨rfl, by rw [hU]; exact hC.warm hW, by rw [hU]; exact (sub_X_G (μ := μ) hP)⟩⟩ rfl rfl hl.1 rfl (lv_room (Nat.le_of_ble_eq_true rfl)) dX4_forced_52 ⟨Nat.le_of_ble_eq_true rfl, Nat.le_of_ble_eq_true rfl⟩) ?_
          obtain rfl := Sum.inl.inj (Option.some.inj h)
          exact W.iret hx hb hr (fun t ht hW => ⟨rfl, ht⟩) (fun q hq => absurd hq List.not_mem_nil) dX4_forced_55
        · have h := iteT hc h
          refine lv_iload_n hx hb dX4_forced_40 rfl (lv_at hl 0 rfl) ?_
          obtain ⟨r6, er6, h⟩ := obind h
          refine call_R (va_runS (As := [.int r4]) (rest := []) ⟨hx, hb, hml, hown, hts⟩ (c_X4_cellName l z0 D t r4 _ er6) (kS hts qw367 qw368 qw1 qw369 ok_X4_cellName ⟨Nat.le_of_ble_eq_true rfl, Nat.le_of_ble_eq_true rfl⟩) ⟨PR.blind, fun U hU hW => ⟨rfl, by rw [hU]; exact hC.warm hW, by rw [hU]; exact va_P_nil⟩⟩ rfl rfl hl.1 rfl (lv_room (Nat.le_of_ble_eq_true rfl)) dX4_forced_41 ⟨Nat.le_of_ble_eq_true rfl, Nat.le_of_ble_eq_true rfl⟩) ?_
          refine lv_goto (tgt := 55) hx hb dX4_forced_44 (by decide) ?_
          obtain rfl := Sum.inl.inj (Option.some.inj h)
          exact W.iret hx hb hr (fun t ht hW => ⟨rfl, ht⟩) (fun q hq => absurd hq List.not_mem_nil) dX4_forced_55
      · have h := iteT hc h
        refine lv_iconst (v := (-1)) hx hb dX4_forced_34 (by decide) ?_
        obtain rfl := Sum.inl.inj (Option.some.inj h)
        exact W.iret hx hb hr (fun t ht hW => ⟨rfl, ht⟩) (fun q hq => absurd hq List.not_mem_nil) dX4_forced_35
    · have h := iteF hc h
      exact absurd (Option.some.inj h) (fun z => by cases z)

abbrev rx_X4_forced : Room := { frames := 6, cells := 1, slots := 6, locals := 137 }
set_option maxHeartbeats 4000000 in
set_option maxRecDepth 100000 in
theorem x_X4_forced (l : Launch) (hl9 : l.stackTraces = false) (z0 : Nat) (D : va_G) (t : Nat → ClassId) (x0 : Nat) (s0 : Nat) (s1 : Nat) (e0 : Nat) (E : Nat → Nat) (A : Nat → Nat) (B : Nat → Nat) (G : Nat → Nat) (T : va_W) (μ : XS) (a1 : Int32) (xE : String) (sz : Nat) (h : f_X4_forced μ a1 = some (.inr xE)) : vx_Met l yX4_forced (ws_ yX4_forced cX4_forced 3 (some .int)) rx_X4_forced (PM z0 D t [.ref (x0), .int a1] (XW x0 s0 s1 e0 E A B G T t μ) (XL x0 s0 s1 e0 E A B G T μ) sz) (fun _ _ _ _ => False) (XM xE D (XW x0 s0 s1 e0 E A B G T t μ) (XL x0 s0 s1 e0 E A B G T μ) sz) 1 6 (OA (XL x0 s0 s1 e0 E A B G T μ) sz) := by
  refine vx_ofW (cc := cX4_forced) (maxL := 3) (ret := (some .int)) (by decide) rfl ?_
  intro p e s m args below meth c s₁ Bo hml hT hv
  obtain ⟨rfl, hC, hsz, hP, hD, hZ⟩ := hv
  have hx := Bo.exec
  have hb := Bo.bytes
  have hr := Bo.returns
  have hts : ∀ w ∈ LA, w.before _ s = true := fun w hw => atoms_spec (ws := ws_ yX4_forced cX4_forced 3 (some .int)) Bo.pre w (List.mem_cons_of_mem _ hw)
  have hown : s.vm.findClass RX4 = some m.cls := findClass_of_methodNamed Bo.named
  have hlocks := Bo.notSynchronized
  have hK := hC.1
  subst hsz
  have hl := lv_entry ([.ref (x0), .int a1]) (n := 3) (Nat.le_of_ble_eq_true rfl)
  rw [lg_entry_eq]
  generalize (lg_sl ([.ref (x0), .int a1]) ++ List.replicate (3 - (lg_sl ([.ref (x0), .int a1])).length) Slot.unset).toArray = ls at hl ⊢
  have hl : lv_has ls 3 [(0, .ref (x0)), (1, .int a1)] := hl
  suffices K9 : ∀ (H : Heap) (locs : List Loc), va_P D vwCl (XW x0 s0 s1 e0 E A B G T t μ) H → va_S (OA (XL x0 s0 s1 e0 E A B G T μ) s.heap.size) s.heap H locs → W p l e (headSpec (ws_ yX4_forced cX4_forced 3 (some .int)) rx_X4_forced).room s m ([.ref (x0), .int a1] : List Value).toArray below meth c H locs 0 0 (vx_MQ below (fun _ _ _ _ => False) (XM xE D (XW x0 s0 s1 e0 E A B G T t μ) (XL x0 s0 s1 e0 E A B G T μ) s.heap.size) ([.ref (x0), .int a1] : List Value).toArray s 1 6 (OA (XL x0 s0 s1 e0 E A B G T μ) s.heap.size)) (F0 m 0 ls []) from K9 s.heap [] hP va_S.rf
  intro H locs hP hS
  have hSz : s.heap.size ≤ H.size := hS.1
  unfold f_X4_forced at h
  refine lv_iload_n hx hb dX4_forced_0 rfl (lv_at hl 1 rfl) ?_
  refine lv_if_eq (tgt := 20) hx hb dX4_forced_1 (by decide) (fun hc => ?_) (fun hc => ?_)
  · have h := iteT hc h
    refine lv_aload_n hx hb dX4_forced_20 rfl (lv_at hl 0 rfl) ?_
    refine va_get hx hb hts inX4 hown hK hP 0 rfl rfl 4 (by decide) (hts _ qw161) (fun _ h9 => h9) rfl dX4_forced_21 ?_
    refine lv_iconst (v := (1)) hx hb dX4_forced_24 (by decide) ?_
    obtain ⟨r1, er1, h⟩ := obind h
    refine call_R (va_runV (As := [.int (1 : Int32)]) (rest := []) ⟨hx, hb, hml, hown, hts⟩ (c_X1_firstFreeWith l z0 D t G ((x_wide μ), (x_high μ), (x_pond μ), (x_walls μ), (x_paved μ), (x_tc μ), (x_flips μ), (x_refused μ), (x_names μ)) (1 : Int32) _ er1) (kV hts qw338 qw339 qw340 qw8 qw341 ok_X1_firstFreeWith ⟨Nat.le_of_ble_eq_true rfl, Nat.le_of_ble_eq_true rfl⟩) ⟨PR.blind, va_recv hK (sub_X_G (μ := μ) hP) (ci := 2) (q0 := 0) rfl rfl, fun U hU hW => ⟨rfl, by rw [hU]; exact (hC.at hS hZ).warm hW, by rw [hU]; exact (sub_X_G (μ := μ) hP)⟩⟩ rfl rfl hl.1 rfl (lv_room (Nat.le_of_ble_eq_true rfl)) dX4_forced_25 ⟨Nat.le_of_ble_eq_true rfl, Nat.le_of_ble_eq_true rfl⟩) ?_
    refine lv_istore_n (lv' := [(2, .int r1), (0, .ref (x0)), (1, .int a1)]) hx hb dX4_forced_28 rfl hl (by decide) rfl (fun ls hl => ?_)
    refine lv_iload_n hx hb dX4_forced_29 rfl (lv_at hl 0 rfl) ?_
    refine lv_iconst (v := (-1)) hx hb dX4_forced_30 (by decide) ?_
    refine lv_icmp_ne (tgt := 36) hx hb dX4_forced_31 (by decide) (fun hc => ?_) (fun hc => ?_)
    · have h := iteF hc h
      refine lv_iload_n hx hb dX4_forced_36 rfl (lv_at hl 2 rfl) ?_
      refine lv_if_ne (tgt := 47) hx hb dX4_forced_37 (by decide) (fun hc => ?_) (fun hc => ?_)
      · have h := iteF hc h
        refine lv_aload_n hx hb dX4_forced_47 rfl (lv_at hl 1 rfl) ?_
        refine va_get hx hb hts inX4 hown hK hP 0 rfl rfl 4 (by decide) (hts _ qw161) (fun _ h9 => h9) rfl dX4_forced_48 ?_
        refine lv_iload_n hx hb dX4_forced_51 rfl (lv_at hl 0 rfl) ?_
        obtain ⟨r2, er2, h⟩ := obind h
        refine call_R (va_runV (As := [.int r1]) (rest := []) ⟨hx, hb, hml, hown, hts⟩ (c_X1_firstCover l z0 D t G ((x_wide μ), (x_high μ), (x_pond μ), (x_walls μ), (x_paved μ), (x_tc μ), (x_flips μ), (x_refused μ), (x_names μ)) r1 _ er2) (kV hts qw626 qw627 qw628 qw8 qw629 ok_X1_firstCover ⟨Nat.le_of_ble_eq_true rfl, Nat.le_of_ble_eq_true rfl⟩) ⟨PR.blind, va_recv hK (sub_X_G (μ := μ) hP) (ci := 2) (q0 := 0) rfl rfl, fun U hU hW => ⟨rfl, by rw [hU]; exact (hC.at hS hZ).warm hW, by rw [hU]; exact (sub_X_G (μ := μ) hP)⟩⟩ rfl rfl hl.1 rfl (lv_room (Nat.le_of_ble_eq_true rfl)) dX4_forced_52 ⟨Nat.le_of_ble_eq_true rfl, Nat.le_of_ble_eq_true rfl⟩) ?_
        exact absurd (Option.some.inj h) (fun z => by cases z)
      · have h := iteT hc h
        refine lv_iload_n hx hb dX4_forced_40 rfl (lv_at hl 0 rfl) ?_
        obtain ⟨r3, er3, h⟩ := obind h
        refine call_R (va_runS (As := [.int r1]) (rest := []) ⟨hx, hb, hml, hown, hts⟩ (c_X4_cellName l z0 D t r1 _ er3) (kS hts qw367 qw368 qw1 qw369 ok_X4_cellName ⟨Nat.le_of_ble_eq_true rfl, Nat.le_of_ble_eq_true rfl⟩) ⟨PR.blind, fun U hU hW => ⟨rfl, by rw [hU]; exact (hC.at hS hZ).warm hW, by rw [hU]; exact va_P_nil⟩⟩ rfl rfl hl.1 rfl (lv_room (Nat.le_of_ble_eq_true rfl)) dX4_forced_41 ⟨Nat.le_of_ble_eq_true rfl, Nat.le_of_ble_eq_true rfl⟩) ?_
        refine lv_goto (tgt := 55) hx hb dX4_forced_44 (by decide) ?_
        exact absurd (Option.some.inj h) (fun z => by cases z)
    · have h := iteT hc h
      refine lv_iconst (v := (-1)) hx hb dX4_forced_34 (by decide) ?_
      exact absurd (Option.some.inj h) (fun z => by cases z)
  · have h := iteF hc h
    refine lv_iload_n hx hb dX4_forced_4 rfl (lv_at hl 1 rfl) ?_
    refine lv_iconst (v := (1)) hx hb dX4_forced_5 (by decide) ?_
    refine lv_icmp_eq (tgt := 20) hx hb dX4_forced_6 (by decide) (fun hc => ?_) (fun hc => ?_)
    · have h := iteT hc h
      refine lv_aload_n hx hb dX4_forced_20 rfl (lv_at hl 0 rfl) ?_
      refine va_get hx hb hts inX4 hown hK hP 0 rfl rfl 4 (by decide) (hts _ qw161) (fun _ h9 => h9) rfl dX4_forced_21 ?_
      refine lv_iconst (v := (1)) hx hb dX4_forced_24 (by decide) ?_
      obtain ⟨r4, er4, h⟩ := obind h
      refine call_R (va_runV (As := [.int (1 : Int32)]) (rest := []) ⟨hx, hb, hml, hown, hts⟩ (c_X1_firstFreeWith l z0 D t G ((x_wide μ), (x_high μ), (x_pond μ), (x_walls μ), (x_paved μ), (x_tc μ), (x_flips μ), (x_refused μ), (x_names μ)) (1 : Int32) _ er4) (kV hts qw338 qw339 qw340 qw8 qw341 ok_X1_firstFreeWith ⟨Nat.le_of_ble_eq_true rfl, Nat.le_of_ble_eq_true rfl⟩) ⟨PR.blind, va_recv hK (sub_X_G (μ := μ) hP) (ci := 2) (q0 := 0) rfl rfl, fun U hU hW => ⟨rfl, by rw [hU]; exact (hC.at hS hZ).warm hW, by rw [hU]; exact (sub_X_G (μ := μ) hP)⟩⟩ rfl rfl hl.1 rfl (lv_room (Nat.le_of_ble_eq_true rfl)) dX4_forced_25 ⟨Nat.le_of_ble_eq_true rfl, Nat.le_of_ble_eq_true rfl⟩) ?_
      refine lv_istore_n (lv' := [(2, .int r4), (0, .ref (x0)), (1, .int a1)]) hx hb dX4_forced_28 rfl hl (by decide) rfl (fun ls hl => ?_)
      refine lv_iload_n hx hb dX4_forced_29 rfl (lv_at hl 0 rfl) ?_
      refine lv_iconst (v := (-1)) hx hb dX4_forced_30 (by decide) ?_
      refine lv_icmp_ne (tgt := 36) hx hb dX4_forced_31 (by decide) (fun hc => ?_) (fun hc => ?_)
      · have h := iteF hc h
        refine lv_iload_n hx hb dX4_forced_36 rfl (lv_at hl 2 rfl) ?_
        refine lv_if_ne (tgt := 47) hx hb dX4_forced_37 (by decide) (fun hc => ?_) (fun hc => ?_)
        · have h := iteF hc h
          refine lv_aload_n hx hb dX4_forced_47 rfl (lv_at hl 1 rfl) ?_
          refine va_get hx hb hts inX4 hown hK hP 0 rfl rfl 4 (by decide) (hts _ qw161) (fun _ h9 => h9) rfl dX4_forced_48 ?_
          refine lv_iload_n hx hb dX4_forced_51 rfl (lv_at hl 0 rfl) ?_
          obtain ⟨r5, er5, h⟩ := obind h
          refine call_R (va_runV (As := [.int r4]) (rest := []) ⟨hx, hb, hml, hown, hts⟩ (c_X1_firstCover l z0 D t G ((x_wide μ), (x_high μ), (x_pond μ), (x_walls μ), (x_paved μ), (x_tc μ), (x_flips μ), (x_refused μ), (x_names μ)) r4 _ er5) (kV hts qw626 qw627 qw628 qw8 qw629 ok_X1_firstCover ⟨Nat.le_of_ble_eq_true rfl, Nat.le_of_ble_eq_true rfl⟩) ⟨PR.blind, va_recv hK (sub_X_G (μ := μ) hP) (ci := 2) (q0 := 0) rfl rfl, fun U hU hW => ⟨rfl, by rw [hU]; exact (hC.at hS hZ).warm hW, by rw [hU]; exact (sub_X_G (μ := μ) hP)⟩⟩ rfl rfl hl.1 rfl (lv_room (Nat.le_of_ble_eq_true rfl)) dX4_forced_52 ⟨Nat.le_of_ble_eq_true rfl, Nat.le_of_ble_eq_true rfl⟩) ?_
          exact absurd (Option.some.inj h) (fun z => by cases z)
        · have h := iteT hc h
          refine lv_iload_n hx hb dX4_forced_40 rfl (lv_at hl 0 rfl) ?_
          obtain ⟨r6, er6, h⟩ := obind h
          refine call_R (va_runS (As := [.int r4]) (rest := []) ⟨hx, hb, hml, hown, hts⟩ (c_X4_cellName l z0 D t r4 _ er6) (kS hts qw367 qw368 qw1 qw369 ok_X4_cellName ⟨Nat.le_of_ble_eq_true rfl, Nat.le_of_ble_eq_true rfl⟩) ⟨PR.blind, fun U hU hW => ⟨rfl, by rw [hU]; exact (hC.at hS hZ).warm hW, by rw [hU]; exact va_P_nil⟩⟩ rfl rfl hl.1 rfl (lv_room (Nat.le_of_ble_eq_true rfl)) dX4_forced_41 ⟨Nat.le_of_ble_eq_true rfl, Nat.le_of_ble_eq_true rfl⟩) ?_
          refine lv_goto (tgt := 55) hx hb dX4_forced_44 (by decide) ?_
          exact absurd (Option.some.inj h) (fun z => by cases z)
      · have h := iteT hc h
        refine lv_iconst (v := (-1)) hx hb dX4_forced_34 (by decide) ?_
        exact absurd (Option.some.inj h) (fun z => by cases z)
    · have h := iteF hc h
      obtain rfl := Sum.inr.inj (Option.some.inj h)
      obtain ⟨sa, hsa⟩ := hC.2.2.2.2.2.1 ("BentGardens", 273, "what is not 0 or 1") (by decide +kernel)
      refine vx_throwSW hx hb hl9 hown (cls := "java/lang/IllegalArgumentException") (names := ["java/lang/RuntimeException", "java/lang/Exception"]) (by decide) (by decide) (hts _ qw471) (hts _ qw13) hsa (at_words hts hC.2.1 at_IllegalArgumentException) ato_IllegalArgumentException (hC.2.2.2.2.2.2.2.1.narrow hZ) (hC.2.2.2.2.2.2.2.2.1.narrow hZ) hS (hl.1.trans hml.symm) dX4_forced_9 dX4_forced_12 dX4_forced_13 dX4_forced_16 dX4_forced_19 (fun x9 hx9 => (hT x9 hx9).elim) (Nat.le_of_ble_eq_true rfl) (Nat.le_of_ble_eq_true rfl) (Nat.le_of_ble_eq_true rfl) (Nat.le_of_ble_eq_true rfl) hlocks (fun t9 _ h8 h9 => XM.mk hP hD hS h8 h9) hS.2.2 (Nat.le_of_ble_eq_true rfl) (Nat.le_of_ble_eq_true rfl)

abbrev rm_X4_mixedSlots : Room := { frames := 1, cells := 0, slots := 0, locals := 40 }
theorem ok_X4_mixedSlots : okY yX4_mixedSlots 1 := ⟨by decide +kernel, by decide +kernel, by decide +kernel⟩
set_option maxHeartbeats 4000000 in
set_option maxRecDepth 100000 in
theorem c_X4_mixedSlots (l : Launch) (z0 : Nat) (D : va_G) (t : Nat → ClassId) (x0 : Nat) (s0 : Nat) (s1 : Nat) (e0 : Nat) (E : Nat → Nat) (A : Nat → Nat) (B : Nat → Nat) (G : Nat → Nat) (T : va_W) (μ : XS) (a1 : Int64) (res : Int64) (h : f_X4_mixedSlots μ a1 = some res) : Met l yX4_mixedSlots (ws_ yX4_mixedSlots cX4_mixedSlots 6 (some .long)) rm_X4_mixedSlots (PR z0 D t [.ref (x0), .long a1] (XW x0 s0 s1 e0 E A B G T t μ)) (QR (some (.long res))) 0 0 FN := by
  refine Met.ofW (cc := cX4_mixedSlots) (maxL := 6) (ret := (some .long)) (by decide) rfl ?_
  intro p e s m args below meth c s₁ Bo hml hv
  obtain ⟨rfl, hC, hP⟩ := hv
  have hx := Bo.exec
  have hb := Bo.bytes
  have hr := Bo.returns
  have hts : ∀ w ∈ LA, w.before _ s = true := fun w hw => atoms_spec (ws := ws_ yX4_mixedSlots cX4_mixedSlots 6 (some .long)) Bo.pre w (List.mem_cons_of_mem _ hw)
  have hown : s.vm.findClass RX4 = some m.cls := findClass_of_methodNamed Bo.named
  have hlocks := Bo.notSynchronized
  have hK := hC.1
  have hl := lv_entry ([.ref (x0), .long a1]) (n := 6) (Nat.le_of_ble_eq_true rfl)
  rw [lg_entry_eq]
  generalize (lg_sl ([.ref (x0), .long a1]) ++ List.replicate (6 - (lg_sl ([.ref (x0), .long a1])).length) Slot.unset).toArray = ls at hl ⊢
  have hl : lv_has ls 6 [(0, .ref (x0)), (1, .long a1)] := hl
  unfold f_X4_mixedSlots at h
  refine lv_lload_n hx hb dX4_mixedSlots_0 rfl (lv_at hl 1 rfl) ?_
  refine lv_lstore_n (lv' := [(3, .long a1), (0, .ref (x0)), (1, .long a1)]) hx hb dX4_mixedSlots_1 rfl hl (by decide) rfl (fun ls hl => ?_)
  refine lv_iconst (v := (0)) hx hb dX4_mixedSlots_2 (by decide) ?_
  refine lv_istore (lv' := [(5, .int (0 : Int32)), (3, .long a1), (0, .ref (x0)), (1, .long a1)]) hx hb dX4_mixedSlots_3 hl (by decide) rfl (fun ls hl => ?_)
  obtain ⟨o11, eo11, h⟩ := obind h
  have hL5 : ∀ (n : Nat) (y3_5 : Int64) (y5_5 : Int32) (o11 : Int64), f_X4_mixedSlots_L5 μ n y3_5 y5_5 = some o11 → (∀ (ls : Array Slot), lv_has ls 6 [(3, .long o11)] → W p l e (headSpec (ws_ yX4_mixedSlots cX4_mixedSlots 6 (some .long)) rm_X4_mixedSlots).room s m ([.ref (x0), .long a1] : List Value).toArray below meth c s.heap [] 0 0 (MQ below (QR (some (.long res))) ([.ref (x0), .long a1] : List Value).toArray s 0 0 FN) (F0 m 41 ls [])) → ∀ (ls : Array Slot), lv_has ls 6 [(0, .ref (x0)), (3, .long y3_5), (5, .int y5_5)] → W p l e (headSpec (ws_ yX4_mixedSlots cX4_mixedSlots 6 (some .long)) rm_X4_mixedSlots).room s m ([.ref (x0), .long a1] : List Value).toArray below meth c s.heap [] 0 0 (MQ below (QR (some (.long res))) ([.ref (x0), .long a1] : List Value).toArray s 0 0 FN) (F0 m 5 ls []) := by
    intro n
    induction n with
    | zero => intro y3_5 y5_5 o11 h; exact absurd h (fun z => by cases z)
    | succ n ih =>
      intro y3_5 y5_5 o11 h hK5 ls hl
      replace h : f_X4_mixedSlots_L5_b μ (f_X4_mixedSlots_L5 μ n) y3_5 y5_5 = some o11 := h
      unfold f_X4_mixedSlots_L5_b at h
      refine lv_iload hx hb dX4_mixedSlots_5 (lv_at hl 2 rfl) ?_
      refine lv_aload_n hx hb dX4_mixedSlots_7 rfl (lv_at hl 0 rfl) ?_
      refine va_get hx hb hts inX4 hown hK hP 0 rfl rfl 1 (by decide) (hts _ qw158) (fun _ h9 => h9) rfl dX4_mixedSlots_8 ?_
      refine va_alen hx hb hK hP 1 3 rfl rfl (v := 2) rfl dX4_mixedSlots_11 ?_
      refine lv_icmp_ge (tgt := 41) hx hb dX4_mixedSlots_12 (by decide) (fun hc => ?_) (fun hc => ?_)
      · have h := iteT hc h
        obtain rfl := Option.some.inj h
        exact hK5 ls (lv_sub hl [1] rfl)
      · have h := iteF hc h
        refine lv_lload_n hx hb dX4_mixedSlots_15 rfl (lv_at hl 1 rfl) ?_
        refine lv_aload_n hx hb dX4_mixedSlots_16 rfl (lv_at hl 0 rfl) ?_
        refine va_get hx hb hts inX4 hown hK hP 0 rfl rfl 1 (by decide) (hts _ qw158) (fun _ h9 => h9) rfl dX4_mixedSlots_17 ?_
        refine lv_iload hx hb dX4_mixedSlots_20 (lv_at hl 2 rfl) ?_
        obtain ⟨w12, ew12, h⟩ := obind h
        refine va_aldq hx hb hK hP 1 3 rfl rfl (jld_some ew12).1 dX4_mixedSlots_22 ?_
        refine topQ (jld_some ew12).2.symm ?_
        by_cases hc : w12 = none
        · have h := iteT hc h
          rw [hc]
          refine lv_ifnonnullN hx hb dX4_mixedSlots_23 ?_
          refine lv_lconst (v := (0)) hx hb dX4_mixedSlots_26 (by decide) ?_
          refine lv_goto (tgt := 31) hx hb dX4_mixedSlots_27 (by decide) ?_
          obtain ⟨r13, er13, h⟩ := obind h
          refine call_R (va_runS (As := [.long y3_5, .long (0 : Int64)]) (rest := []) ⟨hx, hb, hml, hown, hts⟩ (c_X4_mixed l z0 D t y3_5 (0 : Int64) _ er13) (kS hts qw539 qw540 qw1 qw541 ok_X4_mixed ⟨Nat.le_of_ble_eq_true rfl, Nat.le_of_ble_eq_true rfl⟩) ⟨PR.blind, fun U hU hW => ⟨rfl, by rw [hU]; exact hC.warm hW, by rw [hU]; exact va_P_nil⟩⟩ rfl rfl hl.1 rfl (lv_room (Nat.le_of_ble_eq_true rfl)) dX4_mixedSlots_31 ⟨Nat.le_of_ble_eq_true rfl, Nat.le_of_ble_eq_true rfl⟩) ?_
          refine lv_lstore_n (lv' := [(3, .long r13), (0, .ref (x0)), (5, .int y5_5)]) hx hb dX4_mixedSlots_34 rfl hl (by decide) rfl (fun ls hl => ?_)
          obtain ⟨x14, ex14, h⟩ := jlet_some h
          refine lv_iinc (v := x14) (lv' := [(5, .int x14), (3, .long r13), (0, .ref (x0))]) hx hb dX4_mixedSlots_35 hl (k := 2) rfl (by rw [ex14]; rfl) (by decide) rfl (fun ls hl => ?_)
          refine lv_goto (tgt := 5) hx hb dX4_mixedSlots_38 (by decide) ?_
          exact ih _ _ _ h hK5 ls (lv_sub hl [2, 1, 0] rfl)
        · have h := iteF hc h
          obtain ⟨q9, hq9⟩ := Option.ne_none_iff_exists'.mp hc
          rw [hq9]
          refine lv_ifnonnull (tgt := 30) hx hb dX4_mixedSlots_23 (by decide) ?_
          refine lv_lconst (v := (1)) hx hb dX4_mixedSlots_30 (by decide) ?_
          obtain ⟨r15, er15, h⟩ := obind h
          refine call_R (va_runS (As := [.long y3_5, .long (1 : Int64)]) (rest := []) ⟨hx, hb, hml, hown, hts⟩ (c_X4_mixed l z0 D t y3_5 (1 : Int64) _ er15) (kS hts qw539 qw540 qw1 qw541 ok_X4_mixed ⟨Nat.le_of_ble_eq_true rfl, Nat.le_of_ble_eq_true rfl⟩) ⟨PR.blind, fun U hU hW => ⟨rfl, by rw [hU]; exact hC.warm hW, by rw [hU]; exact va_P_nil⟩⟩ rfl rfl hl.1 rfl (lv_room (Nat.le_of_ble_eq_true rfl)) dX4_mixedSlots_31 ⟨Nat.le_of_ble_eq_true rfl, Nat.le_of_ble_eq_true rfl⟩) ?_
          refine lv_lstore_n (lv' := [(3, .long r15), (0, .ref (x0)), (5, .int y5_5)]) hx hb dX4_mixedSlots_34 rfl hl (by decide) rfl (fun ls hl => ?_)
          obtain ⟨x16, ex16, h⟩ := jlet_some h
          refine lv_iinc (v := x16) (lv' := [(5, .int x16), (3, .long r15), (0, .ref (x0))]) hx hb dX4_mixedSlots_35 hl (k := 2) rfl (by rw [ex16]; rfl) (by decide) rfl (fun ls hl => ?_)
          refine lv_goto (tgt := 5) hx hb dX4_mixedSlots_38 (by decide) ?_
          exact ih _ _ _ h hK5 ls (lv_sub hl [2, 1, 0] rfl)
  refine hL5 _ _ _ _ eo11 (fun ls hl => ?_) ls (lv_sub hl [2, 1, 0] rfl)
  refine lv_lload_n hx hb dX4_mixedSlots_41 rfl (lv_at hl 0 rfl) ?_
  obtain rfl := Option.some.inj h
  exact W.lret hx hb hr (fun t ht hW => ⟨rfl, ht⟩) (fun q hq => absurd hq List.not_mem_nil) dX4_mixedSlots_42

abbrev rm_X4_mixedBuffer : Room := { frames := 1, cells := 0, slots := 0, locals := 40 }
theorem ok_X4_mixedBuffer : okY yX4_mixedBuffer 1 := ⟨by decide +kernel, by decide +kernel, by decide +kernel⟩
set_option maxHeartbeats 4000000 in
set_option maxRecDepth 100000 in
theorem c_X4_mixedBuffer (l : Launch) (z0 : Nat) (D : va_G) (t : Nat → ClassId) (x0 : Nat) (s0 : Nat) (s1 : Nat) (e0 : Nat) (E : Nat → Nat) (A : Nat → Nat) (B : Nat → Nat) (G : Nat → Nat) (T : va_W) (μ : XS) (a1 : Int64) (res : Int64) (h : f_X4_mixedBuffer μ a1 = some res) : Met l yX4_mixedBuffer (ws_ yX4_mixedBuffer cX4_mixedBuffer 6 (some .long)) rm_X4_mixedBuffer (PR z0 D t [.ref (x0), .long a1] (XW x0 s0 s1 e0 E A B G T t μ)) (QR (some (.long res))) 0 0 FN := by
  refine Met.ofW (cc := cX4_mixedBuffer) (maxL := 6) (ret := (some .long)) (by decide) rfl ?_
  intro p e s m args below meth c s₁ Bo hml hv
  obtain ⟨rfl, hC, hP⟩ := hv
  have hx := Bo.exec
  have hb := Bo.bytes
  have hr := Bo.returns
  have hts : ∀ w ∈ LA, w.before _ s = true := fun w hw => atoms_spec (ws := ws_ yX4_mixedBuffer cX4_mixedBuffer 6 (some .long)) Bo.pre w (List.mem_cons_of_mem _ hw)
  have hown : s.vm.findClass RX4 = some m.cls := findClass_of_methodNamed Bo.named
  have hlocks := Bo.notSynchronized
  have hK := hC.1
  have hl := lv_entry ([.ref (x0), .long a1]) (n := 6) (Nat.le_of_ble_eq_true rfl)
  rw [lg_entry_eq]
  generalize (lg_sl ([.ref (x0), .long a1]) ++ List.replicate (6 - (lg_sl ([.ref (x0), .long a1])).length) Slot.unset).toArray = ls at hl ⊢
  have hl : lv_has ls 6 [(0, .ref (x0)), (1, .long a1)] := hl
  unfold f_X4_mixedBuffer at h
  refine lv_lload_n hx hb dX4_mixedBuffer_0 rfl (lv_at hl 1 rfl) ?_
  refine lv_aload_n hx hb dX4_mixedBuffer_1 rfl (lv_at hl 0 rfl) ?_
  refine va_get hx hb hts inX4 hown hK hP 0 rfl rfl 2 (by decide) (hts _ qw159) (fun _ h9 => h9) rfl dX4_mixedBuffer_2 ?_
  refine va_get hx hb hts inX0 hown hK hP 2 rfl rfl 0 (by decide) (hts _ qw70) (fun _ h9 => h9) rfl dX4_mixedBuffer_5 ?_
  refine lv_i2l hx hb dX4_mixedBuffer_8 rfl ?_
  obtain ⟨r1, er1, h⟩ := obind h
  refine call_R (va_runS (As := [.long a1, .long ((x_length μ).toInt64)]) (rest := []) ⟨hx, hb, hml, hown, hts⟩ (c_X4_mixed l z0 D t a1 ((x_length μ).toInt64) _ er1) (kS hts qw539 qw540 qw1 qw541 ok_X4_mixed ⟨Nat.le_of_ble_eq_true rfl, Nat.le_of_ble_eq_true rfl⟩) ⟨PR.blind, fun U hU hW => ⟨rfl, by rw [hU]; exact hC.warm hW, by rw [hU]; exact va_P_nil⟩⟩ rfl rfl hl.1 rfl (lv_room (Nat.le_of_ble_eq_true rfl)) dX4_mixedBuffer_9 ⟨Nat.le_of_ble_eq_true rfl, Nat.le_of_ble_eq_true rfl⟩) ?_
  refine lv_lstore_n (lv' := [(3, .long r1), (0, .ref (x0)), (1, .long a1)]) hx hb dX4_mixedBuffer_12 rfl hl (by decide) rfl (fun ls hl => ?_)
  refine lv_iconst (v := (0)) hx hb dX4_mixedBuffer_13 (by decide) ?_
  refine lv_istore (lv' := [(5, .int (0 : Int32)), (3, .long r1), (0, .ref (x0)), (1, .long a1)]) hx hb dX4_mixedBuffer_14 hl (by decide) rfl (fun ls hl => ?_)
  obtain ⟨o8, eo8, h⟩ := obind h
  have hL16 : ∀ (n : Nat) (y3_16 : Int64) (y5_16 : Int32) (o8 : Int64), f_X4_mixedBuffer_L16 μ n y3_16 y5_16 = some o8 → (∀ (ls : Array Slot), lv_has ls 6 [(3, .long o8)] → W p l e (headSpec (ws_ yX4_mixedBuffer cX4_mixedBuffer 6 (some .long)) rm_X4_mixedBuffer).room s m ([.ref (x0), .long a1] : List Value).toArray below meth c s.heap [] 0 0 (MQ below (QR (some (.long res))) ([.ref (x0), .long a1] : List Value).toArray s 0 0 FN) (F0 m 49 ls [])) → ∀ (ls : Array Slot), lv_has ls 6 [(0, .ref (x0)), (3, .long y3_16), (5, .int y5_16)] → W p l e (headSpec (ws_ yX4_mixedBuffer cX4_mixedBuffer 6 (some .long)) rm_X4_mixedBuffer).room s m ([.ref (x0), .long a1] : List Value).toArray below meth c s.heap [] 0 0 (MQ below (QR (some (.long res))) ([.ref (x0), .long a1] : List Value).toArray s 0 0 FN) (F0 m 16 ls []) := by
    intro n
    induction n with
    | zero => intro y3_16 y5_16 o8 h; exact absurd h (fun z => by cases z)
    | succ n ih =>
      intro y3_16 y5_16 o8 h hK16 ls hl
      replace h : f_X4_mixedBuffer_L16_b μ (f_X4_mixedBuffer_L16 μ n) y3_16 y5_16 = some o8 := h
      unfold f_X4_mixedBuffer_L16_b at h
      refine lv_iload hx hb dX4_mixedBuffer_16 (lv_at hl 2 rfl) ?_
      refine lv_aload_n hx hb dX4_mixedBuffer_18 rfl (lv_at hl 0 rfl) ?_
      refine va_get hx hb hts inX4 hown hK hP 0 rfl rfl 2 (by decide) (hts _ qw159) (fun _ h9 => h9) rfl dX4_mixedBuffer_19 ?_
      refine va_get hx hb hts inX0 hown hK hP 2 rfl rfl 0 (by decide) (hts _ qw70) (fun _ h9 => h9) rfl dX4_mixedBuffer_22 ?_
      refine lv_icmp_ge (tgt := 49) hx hb dX4_mixedBuffer_25 (by decide) (fun hc => ?_) (fun hc => ?_)
      · have h := iteT hc h
        obtain rfl := Option.some.inj h
        exact hK16 ls (lv_sub hl [1] rfl)
      · have h := iteF hc h
        refine lv_lload_n hx hb dX4_mixedBuffer_28 rfl (lv_at hl 1 rfl) ?_
        refine lv_aload_n hx hb dX4_mixedBuffer_29 rfl (lv_at hl 0 rfl) ?_
        refine va_get hx hb hts inX4 hown hK hP 0 rfl rfl 2 (by decide) (hts _ qw159) (fun _ h9 => h9) rfl dX4_mixedBuffer_30 ?_
        refine lv_iload hx hb dX4_mixedBuffer_33 (lv_at hl 2 rfl) ?_
        obtain ⟨r9, er9, h⟩ := obind h
        refine call_R (va_runV (As := [.int y5_16]) (rest := [.long y3_16]) ⟨hx, hb, hml, hown, hts⟩ (c_X0_codeAt l z0 D t E ((x_length μ), (x_codes μ)) y5_16 _ er9) (kV hts qw649 qw212 qw213 qw5 qw214 ok_X0_codeAt ⟨Nat.le_of_ble_eq_true rfl, Nat.le_of_ble_eq_true rfl⟩) ⟨PR.blind, va_recv hK (sub_X_B (μ := μ) hP) (ci := 1) (q0 := 0) rfl rfl, fun U hU hW => ⟨rfl, by rw [hU]; exact hC.warm hW, by rw [hU]; exact (sub_X_B (μ := μ) hP)⟩⟩ rfl rfl hl.1 rfl (lv_room (Nat.le_of_ble_eq_true rfl)) dX4_mixedBuffer_35 ⟨Nat.le_of_ble_eq_true rfl, Nat.le_of_ble_eq_true rfl⟩) ?_
        refine lv_i2l hx hb dX4_mixedBuffer_38 rfl ?_
        obtain ⟨r10, er10, h⟩ := obind h
        refine call_R (va_runS (As := [.long y3_16, .long r9.toInt64]) (rest := []) ⟨hx, hb, hml, hown, hts⟩ (c_X4_mixed l z0 D t y3_16 r9.toInt64 _ er10) (kS hts qw539 qw540 qw1 qw541 ok_X4_mixed ⟨Nat.le_of_ble_eq_true rfl, Nat.le_of_ble_eq_true rfl⟩) ⟨PR.blind, fun U hU hW => ⟨rfl, by rw [hU]; exact hC.warm hW, by rw [hU]; exact va_P_nil⟩⟩ rfl rfl hl.1 rfl (lv_room (Nat.le_of_ble_eq_true rfl)) dX4_mixedBuffer_39 ⟨Nat.le_of_ble_eq_true rfl, Nat.le_of_ble_eq_true rfl⟩) ?_
        refine lv_lstore_n (lv' := [(3, .long r10), (0, .ref (x0)), (5, .int y5_16)]) hx hb dX4_mixedBuffer_42 rfl hl (by decide) rfl (fun ls hl => ?_)
        obtain ⟨x11, ex11, h⟩ := jlet_some h
        refine lv_iinc (v := x11) (lv' := [(5, .int x11), (3, .long r10), (0, .ref (x0))]) hx hb dX4_mixedBuffer_43 hl (k := 2) rfl (by rw [ex11]; rfl) (by decide) rfl (fun ls hl => ?_)
        refine lv_goto (tgt := 16) hx hb dX4_mixedBuffer_46 (by decide) ?_
        exact ih _ _ _ h hK16 ls (lv_sub hl [2, 1, 0] rfl)
  refine hL16 _ _ _ _ eo8 (fun ls hl => ?_) ls (lv_sub hl [2, 1, 0] rfl)
  refine lv_lload_n hx hb dX4_mixedBuffer_49 rfl (lv_at hl 0 rfl) ?_
  obtain rfl := Option.some.inj h
  exact W.lret hx hb hr (fun t ht hW => ⟨rfl, ht⟩) (fun q hq => absurd hq List.not_mem_nil) dX4_mixedBuffer_50

abbrev rm_X4_digest : Room := { frames := 9, cells := 0, slots := 0, locals := 191 }
theorem ok_X4_digest : okY yX4_digest 0 := ⟨by decide +kernel, by decide +kernel, by decide +kernel⟩
set_option maxHeartbeats 4000000 in
set_option maxRecDepth 100000 in
theorem c_X4_digest (l : Launch) (z0 : Nat) (D : va_G) (t : Nat → ClassId) (x0 : Nat) (s0 : Nat) (s1 : Nat) (e0 : Nat) (E : Nat → Nat) (A : Nat → Nat) (B : Nat → Nat) (G : Nat → Nat) (T : va_W) (μ : XS) (res : Int64 × (Nat → Int32) × (Nat → Nat) × (Nat → Nat) × (Int32) × (Nat → Int32) × (Nat → Int32) × (Int32) × (Nat → Int32) × (Nat → Int32)) (sz : Nat) (h : f_X4_digest μ = some (.inl res)) : Met l yX4_digest (ws_ yX4_digest cX4_digest 5 (some .long)) rm_X4_digest (PM z0 D t [.ref (x0)] (XW x0 s0 s1 e0 E A B G T t μ) (XL x0 s0 s1 e0 E A B G T μ) sz) (QM (some (.long res.1)) D (XW x0 s0 s1 e0 E A B G T t (x_length μ, x_codes μ, x_rest μ, res.2.1, res.2.2.1, res.2.2.2.1, res.2.2.2.2.1, res.2.2.2.2.2.1, res.2.2.2.2.2.2.1, res.2.2.2.2.2.2.2.1, res.2.2.2.2.2.2.2.2.1, res.2.2.2.2.2.2.2.2.2, x_wide μ, x_high μ, x_pond μ, x_walls μ, x_paved μ, x_tc μ, x_flips μ, x_refused μ, x_names μ, x_sl μ, x_lmod μ, x_lsize μ)) (XL x0 s0 s1 e0 E A B G T μ) sz) 0 0 (OA (XL x0 s0 s1 e0 E A B G T μ) sz) := by
  refine Met.ofW (cc := cX4_digest) (maxL := 5) (ret := (some .long)) (by decide) rfl ?_
  intro p e s m args below meth c s₁ Bo hml hv
  obtain ⟨rfl, hC, hsz, hP, hD, hZ⟩ := hv
  have hx := Bo.exec
  have hb := Bo.bytes
  have hr := Bo.returns
  have hts : ∀ w ∈ LA, w.before _ s = true := fun w hw => atoms_spec (ws := ws_ yX4_digest cX4_digest 5 (some .long)) Bo.pre w (List.mem_cons_of_mem _ hw)
  have hown : s.vm.findClass RX4 = some m.cls := findClass_of_methodNamed Bo.named
  have hlocks := Bo.notSynchronized
  have hK := hC.1
  subst hsz
  have hl := lv_entry ([.ref (x0)]) (n := 5) (Nat.le_of_ble_eq_true rfl)
  rw [lg_entry_eq]
  generalize (lg_sl ([.ref (x0)]) ++ List.replicate (5 - (lg_sl ([.ref (x0)])).length) Slot.unset).toArray = ls at hl ⊢
  have hl : lv_has ls 5 [(0, .ref (x0))] := hl
  suffices K9 : ∀ (H : Heap) (locs : List Loc), va_P D vwCl (XW x0 s0 s1 e0 E A B G T t μ) H → va_S (OA (XL x0 s0 s1 e0 E A B G T μ) s.heap.size) s.heap H locs → W p l e (headSpec (ws_ yX4_digest cX4_digest 5 (some .long)) rm_X4_digest).room s m ([.ref (x0)] : List Value).toArray below meth c H locs 0 0 (MQ below (QM (some (.long res.1)) D (XW x0 s0 s1 e0 E A B G T t (x_length μ, x_codes μ, x_rest μ, res.2.1, res.2.2.1, res.2.2.2.1, res.2.2.2.2.1, res.2.2.2.2.2.1, res.2.2.2.2.2.2.1, res.2.2.2.2.2.2.2.1, res.2.2.2.2.2.2.2.2.1, res.2.2.2.2.2.2.2.2.2, x_wide μ, x_high μ, x_pond μ, x_walls μ, x_paved μ, x_tc μ, x_flips μ, x_refused μ, x_names μ, x_sl μ, x_lmod μ, x_lsize μ)) (XL x0 s0 s1 e0 E A B G T μ) s.heap.size) ([.ref (x0)] : List Value).toArray s 0 0 (OA (XL x0 s0 s1 e0 E A B G T μ) s.heap.size)) (F0 m 0 ls []) from K9 s.heap [] hP va_S.rf
  intro H locs hP hS
  have hSz : s.heap.size ≤ H.size := hS.1
  unfold f_X4_digest at h
  refine lv_ldc2 (v := (3181)) hx hb hown (hts _ qw421) dX4_digest_0 ?_
  refine lv_lstore_n (lv' := [(1, .long (3181 : Int64)), (0, .ref (x0))]) hx hb dX4_digest_3 rfl hl (by decide) rfl (fun ls hl => ?_)
  refine lv_iconst (v := (0)) hx hb dX4_digest_4 (by decide) ?_
  refine lv_istore_n (lv' := [(3, .int (0 : Int32)), (1, .long (3181 : Int64)), (0, .ref (x0))]) hx hb dX4_digest_5 rfl hl (by decide) rfl (fun ls hl => ?_)
  obtain ⟨o7, eo7, h⟩ := obind h
  have hL6 : ∀ (n : Nat) (y1_6 : Int64) (y3_6 : Int32) (o7 : (Int64) ⊕ ((Int64 × (Nat → Int32) × (Nat → Nat) × (Nat → Nat) × (Int32) × (Nat → Int32) × (Nat → Int32) × (Int32) × (Nat → Int32) × (Nat → Int32)) ⊕ (String))), f_X4_digest_L6 μ n y1_6 y3_6 = some o7 → (∀ o7l, o7 = .inl o7l → ∀ (ls : Array Slot) (H : Heap) (locs : List Loc), lv_has ls 5 [(0, .ref (x0)), (1, .long o7l)] → va_P D vwCl (XW x0 s0 s1 e0 E A B G T t μ) H → va_D (OA (XL x0 s0 s1 e0 E A B G T μ) s.heap.size) (XW x0 s0 s1 e0 E A B G T t μ) → va_S (OA (XL x0 s0 s1 e0 E A B G T μ) s.heap.size) s.heap H locs → W p l e (headSpec (ws_ yX4_digest cX4_digest 5 (some .long)) rm_X4_digest).room s m ([.ref (x0)] : List Value).toArray below meth c H locs 0 0 (MQ below (QM (some (.long res.1)) D (XW x0 s0 s1 e0 E A B G T t (x_length μ, x_codes μ, x_rest μ, res.2.1, res.2.2.1, res.2.2.2.1, res.2.2.2.2.1, res.2.2.2.2.2.1, res.2.2.2.2.2.2.1, res.2.2.2.2.2.2.2.1, res.2.2.2.2.2.2.2.2.1, res.2.2.2.2.2.2.2.2.2, x_wide μ, x_high μ, x_pond μ, x_walls μ, x_paved μ, x_tc μ, x_flips μ, x_refused μ, x_names μ, x_sl μ, x_lmod μ, x_lsize μ)) (XL x0 s0 s1 e0 E A B G T μ) s.heap.size) ([.ref (x0)] : List Value).toArray s 0 0 (OA (XL x0 s0 s1 e0 E A B G T μ) s.heap.size)) (F0 m 29 ls [])) → (∀ r9, o7 = .inr r9 → r9 = (.inl res)) → ∀ (ls : Array Slot) (H : Heap) (locs : List Loc), lv_has ls 5 [(0, .ref (x0)), (1, .long y1_6), (3, .int y3_6)] → va_P D vwCl (XW x0 s0 s1 e0 E A B G T t μ) H → va_D (OA (XL x0 s0 s1 e0 E A B G T μ) s.heap.size) (XW x0 s0 s1 e0 E A B G T t μ) → va_S (OA (XL x0 s0 s1 e0 E A B G T μ) s.heap.size) s.heap H locs → W p l e (headSpec (ws_ yX4_digest cX4_digest 5 (some .long)) rm_X4_digest).room s m ([.ref (x0)] : List Value).toArray below meth c H locs 0 0 (MQ below (QM (some (.long res.1)) D (XW x0 s0 s1 e0 E A B G T t (x_length μ, x_codes μ, x_rest μ, res.2.1, res.2.2.1, res.2.2.2.1, res.2.2.2.2.1, res.2.2.2.2.2.1, res.2.2.2.2.2.2.1, res.2.2.2.2.2.2.2.1, res.2.2.2.2.2.2.2.2.1, res.2.2.2.2.2.2.2.2.2, x_wide μ, x_high μ, x_pond μ, x_walls μ, x_paved μ, x_tc μ, x_flips μ, x_refused μ, x_names μ, x_sl μ, x_lmod μ, x_lsize μ)) (XL x0 s0 s1 e0 E A B G T μ) s.heap.size) ([.ref (x0)] : List Value).toArray s 0 0 (OA (XL x0 s0 s1 e0 E A B G T μ) s.heap.size)) (F0 m 6 ls []) := by
    intro n
    induction n with
    | zero => intro y1_6 y3_6 o7 h; exact absurd h (fun z => by cases z)
    | succ n ih =>
      intro y1_6 y3_6 o7 h hK6 hR6 ls H locs hl hP hD hS
      replace h : f_X4_digest_L6_b μ (f_X4_digest_L6 μ n) y1_6 y3_6 = some o7 := h
      unfold f_X4_digest_L6_b at h
      have hSz : s.heap.size ≤ H.size := hS.1
      refine lv_iload_n hx hb dX4_digest_6 rfl (lv_at hl 2 rfl) ?_
      refine lv_bipush (v := (12)) hx hb dX4_digest_7 (by decide) ?_
      refine lv_icmp_ge (tgt := 29) hx hb dX4_digest_9 (by decide) (fun hc => ?_) (fun hc => ?_)
      · have h := iteT hc h
        obtain rfl := Option.some.inj h
        exact hK6 _ rfl ls H locs (lv_sub hl [0, 1] rfl) hP hD hS
      · have h := iteF hc h
        refine lv_lload_n hx hb dX4_digest_12 rfl (lv_at hl 1 rfl) ?_
        refine lv_aload_n hx hb dX4_digest_13 rfl (lv_at hl 0 rfl) ?_
        refine lv_iload_n hx hb dX4_digest_14 rfl (lv_at hl 2 rfl) ?_
        obtain ⟨r8o, er8, h⟩ := obind h
        rcases r8o with r8 | Er8
        · replace h := sumL h
          refine call_R (va_runV (As := [.int y3_6]) (rest := [.long y1_6]) ⟨hx, hb, hml, hown, hts⟩ (c_X4_count l z0 D t x0 s0 s1 e0 E A B G T μ y3_6 _ er8) (kV hts qw422 qw423 qw424 qw1 qw425 ok_X4_count ⟨Nat.le_of_ble_eq_true rfl, Nat.le_of_ble_eq_true rfl⟩) ⟨PR.blind, va_recv hK hP (ci := 5) (q0 := 0) rfl rfl, fun U hU hW => ⟨rfl, by rw [hU]; exact (hC.at hS hZ).warm hW, by rw [hU]; exact hP⟩⟩ rfl rfl hl.1 rfl (lv_room (Nat.le_of_ble_eq_true rfl)) dX4_digest_15 ⟨Nat.le_of_ble_eq_true rfl, Nat.le_of_ble_eq_true rfl⟩) ?_
          refine lv_i2l hx hb dX4_digest_18 rfl ?_
          obtain ⟨r9, er9, h⟩ := obind h
          refine call_R (va_runS (As := [.long y1_6, .long r8.toInt64]) (rest := []) ⟨hx, hb, hml, hown, hts⟩ (c_X4_mixed l z0 D t y1_6 r8.toInt64 _ er9) (kS hts qw539 qw540 qw1 qw541 ok_X4_mixed ⟨Nat.le_of_ble_eq_true rfl, Nat.le_of_ble_eq_true rfl⟩) ⟨PR.blind, fun U hU hW => ⟨rfl, by rw [hU]; exact (hC.at hS hZ).warm hW, by rw [hU]; exact va_P_nil⟩⟩ rfl rfl hl.1 rfl (lv_room (Nat.le_of_ble_eq_true rfl)) dX4_digest_19 ⟨Nat.le_of_ble_eq_true rfl, Nat.le_of_ble_eq_true rfl⟩) ?_
          refine lv_lstore_n (lv' := [(1, .long r9), (0, .ref (x0)), (3, .int y3_6)]) hx hb dX4_digest_22 rfl hl (by decide) rfl (fun ls hl => ?_)
          obtain ⟨x10, ex10, h⟩ := jlet_some h
          refine lv_iinc (v := x10) (lv' := [(3, .int x10), (1, .long r9), (0, .ref (x0))]) hx hb dX4_digest_23 hl (k := 2) rfl (by rw [ex10]; rfl) (by decide) rfl (fun ls hl => ?_)
          refine lv_goto (tgt := 6) hx hb dX4_digest_26 (by decide) ?_
          exact ih _ _ _ h hK6 hR6 ls H locs (lv_sub hl [2, 1, 0] rfl) hP hD hS
        · replace h := sumR h
          have e9 := hR6 _ (Option.some.inj h).symm
          exact absurd e9 (fun z => by cases z)
  refine hL6 _ _ _ _ eo7 (fun o7l eq9 ls H locs hl hP hD hS => ?_) (fun r9 eq9 => ?_) ls H locs (lv_sub hl [2, 1, 0] rfl) hP hD hS
  · subst eq9
    replace h := sumL h
    have hSz : s.heap.size ≤ H.size := hS.1
    refine lv_aload_n hx hb dX4_digest_29 rfl (lv_at hl 0 rfl) ?_
    refine lv_aload_n hx hb dX4_digest_30 rfl (lv_at hl 0 rfl) ?_
    refine lv_aload_n hx hb dX4_digest_31 rfl (lv_at hl 0 rfl) ?_
    refine lv_lload_n hx hb dX4_digest_32 rfl (lv_at hl 1 rfl) ?_
    obtain ⟨r11o, er11, h⟩ := obind h
    rcases r11o with r11 | Er11
    · replace h := sumL h
      refine call_R (va_runV (As := [.long o7l]) (rest := [.ref (x0), .ref (x0)]) ⟨hx, hb, hml, hown, hts⟩ (c_X4_mixedRows l z0 D t x0 s0 s1 e0 E A B G T μ o7l _ er11) (kV hts qw543 qw545 qs17 qw1 qw546 ok_X4_mixedRows ⟨Nat.le_of_ble_eq_true rfl, Nat.le_of_ble_eq_true rfl⟩) ⟨PR.blind, va_recv hK hP (ci := 5) (q0 := 0) rfl rfl, fun U hU hW => ⟨rfl, by rw [hU]; exact (hC.at hS hZ).warm hW, by rw [hU]; exact hP⟩⟩ rfl rfl hl.1 rfl (lv_room (Nat.le_of_ble_eq_true rfl)) dX4_digest_33 ⟨Nat.le_of_ble_eq_true rfl, Nat.le_of_ble_eq_true rfl⟩) ?_
      obtain ⟨r12o, er12, h⟩ := obind h
      rcases r12o with r12 | Er12
      · replace h := sumL h
        refine call_R (va_runV (As := [.long r11]) (rest := [.ref (x0)]) ⟨hx, hb, hml, hown, hts⟩ (c_X4_mixedCells l z0 D t x0 s0 s1 e0 E A B G T μ r11 _ er12) (kV hts qw575 qw577 qs18 qw1 qw578 ok_X4_mixedCells ⟨Nat.le_of_ble_eq_true rfl, Nat.le_of_ble_eq_true rfl⟩) ⟨PR.blind, va_recv hK hP (ci := 5) (q0 := 0) rfl rfl, fun U hU hW => ⟨rfl, by rw [hU]; exact (hC.at hS hZ).warm hW, by rw [hU]; exact hP⟩⟩ rfl rfl hl.1 rfl (lv_room (Nat.le_of_ble_eq_true rfl)) dX4_digest_36 ⟨Nat.le_of_ble_eq_true rfl, Nat.le_of_ble_eq_true rfl⟩) ?_
        obtain ⟨r13o, er13, h⟩ := obind h
        rcases r13o with r13 | Er13
        · replace h := sumL h
          refine call_R (va_runV (As := [.long r12]) (rest := []) ⟨hx, hb, hml, hown, hts⟩ (c_X4_mixedTriples l z0 D t x0 s0 s1 e0 E A B G T μ r12 _ er13) (kV hts qw596 qw598 qs20 qw1 qw599 ok_X4_mixedTriples ⟨Nat.le_of_ble_eq_true rfl, Nat.le_of_ble_eq_true rfl⟩) ⟨PR.blind, va_recv hK hP (ci := 5) (q0 := 0) rfl rfl, fun U hU hW => ⟨rfl, by rw [hU]; exact (hC.at hS hZ).warm hW, by rw [hU]; exact hP⟩⟩ rfl rfl hl.1 rfl (lv_room (Nat.le_of_ble_eq_true rfl)) dX4_digest_39 ⟨Nat.le_of_ble_eq_true rfl, Nat.le_of_ble_eq_true rfl⟩) ?_
          refine lv_lstore_n (lv' := [(1, .long r13), (0, .ref (x0))]) hx hb dX4_digest_42 rfl hl (by decide) rfl (fun ls hl => ?_)
          refine lv_lload_n hx hb dX4_digest_43 rfl (lv_at hl 0 rfl) ?_
          refine lv_aload_n hx hb dX4_digest_44 rfl (lv_at hl 1 rfl) ?_
          obtain ⟨r14, er14, h⟩ := obind h
          refine call_M (va_runV (As := []) (rest := [.long r13]) ⟨hx, hb, hml, hown, hts⟩ (c_X4_ways l z0 D t x0 s0 s1 e0 E A B G T μ _ H.size er14) (kV hts qw609 qw239 qw240 qw1 qw241 ok_X4_ways ⟨Nat.le_of_ble_eq_true rfl, Nat.le_of_ble_eq_true rfl⟩) ⟨PM.blind, va_recv hK hP (ci := 5) (q0 := 0) rfl rfl, fun U hU hW => ⟨rfl, by rw [hU]; exact (hC.at hS hZ).warm hW, by rw [hU], by rw [hU]; exact hP, ⟨hD.1, fun _ _ h9 => Or.inl (in_map (L := (XL x0 s0 s1 e0 E A B G T μ)) rfl h9)⟩, fun q hq => hZ q (OA.ofD hD rfl hSz q hq)⟩⟩ rfl rfl hl.1 rfl (lv_room (Nat.le_of_ble_eq_true rfl)) dX4_digest_45 ⟨Nat.le_of_ble_eq_true rfl, Nat.le_of_ble_eq_true rfl⟩) hS (OA.ofD hD rfl hSz) (fun H locs hP hD1 hS _ _ => ?_)
          have hP : va_P D vwCl (XW x0 s0 s1 e0 E A B G T t (x_length μ, x_codes μ, x_rest μ, r14.2.1, r14.2.2.1, r14.2.2.2.1, r14.2.2.2.2.1, r14.2.2.2.2.2.1, r14.2.2.2.2.2.2.1, r14.2.2.2.2.2.2.2.1, r14.2.2.2.2.2.2.2.2.1, r14.2.2.2.2.2.2.2.2.2, x_wide μ, x_high μ, x_pond μ, x_walls μ, x_paved μ, x_tc μ, x_flips μ, x_refused μ, x_names μ, x_sl μ, x_lmod μ, x_lsize μ)) H := hP
          have hD : va_D (OA (XL x0 s0 s1 e0 E A B G T μ) s.heap.size) (XW x0 s0 s1 e0 E A B G T t (x_length μ, x_codes μ, x_rest μ, r14.2.1, r14.2.2.1, r14.2.2.2.1, r14.2.2.2.2.1, r14.2.2.2.2.2.1, r14.2.2.2.2.2.2.1, r14.2.2.2.2.2.2.2.1, r14.2.2.2.2.2.2.2.2.1, r14.2.2.2.2.2.2.2.2.2, x_wide μ, x_high μ, x_pond μ, x_walls μ, x_paved μ, x_tc μ, x_flips μ, x_refused μ, x_names μ, x_sl μ, x_lmod μ, x_lsize μ)) := hD1.weaken (fun _ q _ h9 => OA.ofD hD rfl hSz q.1 h9)
          have hSz : s.heap.size ≤ H.size := hS.1
          refine lv_i2l hx hb dX4_digest_48 rfl ?_
          obtain ⟨r15, er15, h⟩ := obind h
          refine call_R (va_runS (As := [.long r13, .long r14.1.toInt64]) (rest := []) ⟨hx, hb, hml, hown, hts⟩ (c_X4_mixed l z0 D t r13 r14.1.toInt64 _ er15) (kS hts qw539 qw540 qw1 qw541 ok_X4_mixed ⟨Nat.le_of_ble_eq_true rfl, Nat.le_of_ble_eq_true rfl⟩) ⟨PR.blind, fun U hU hW => ⟨rfl, by rw [hU]; exact (hC.at hS hZ).warm hW, by rw [hU]; exact va_P_nil⟩⟩ rfl rfl hl.1 rfl (lv_room (Nat.le_of_ble_eq_true rfl)) dX4_digest_49 ⟨Nat.le_of_ble_eq_true rfl, Nat.le_of_ble_eq_true rfl⟩) ?_
          refine lv_lstore_n (lv' := [(1, .long r15), (0, .ref (x0))]) hx hb dX4_digest_52 rfl hl (by decide) rfl (fun ls hl => ?_)
          refine lv_iconst (v := (0)) hx hb dX4_digest_53 (by decide) ?_
          refine lv_istore_n (lv' := [(3, .int (0 : Int32)), (1, .long r15), (0, .ref (x0))]) hx hb dX4_digest_54 rfl hl (by decide) rfl (fun ls hl => ?_)
          obtain ⟨o38, eo38, h⟩ := obind h
          have hL55 : ∀ (n : Nat) (y1_55 : Int64) (y3_55 : Int32) (takes_55 : Nat → Int32) (u1_55 : Nat → Nat) (u2_55 : Nat → Nat) (hsz_55 : Int32) (hwin_55 : Nat → Int32) (hway_55 : Nat → Int32) (nsz_55 : Int32) (nwin_55 : Nat → Int32) (nway_55 : Nat → Int32) (o38 : (Int64 × (Nat → Int32) × (Nat → Nat) × (Nat → Nat) × (Int32) × (Nat → Int32) × (Nat → Int32) × (Int32) × (Nat → Int32) × (Nat → Int32)) ⊕ ((Int64 × (Nat → Int32) × (Nat → Nat) × (Nat → Nat) × (Int32) × (Nat → Int32) × (Nat → Int32) × (Int32) × (Nat → Int32) × (Nat → Int32)) ⊕ (String))), f_X4_digest_L55 μ n y1_55 y3_55 takes_55 u1_55 u2_55 hsz_55 hwin_55 hway_55 nsz_55 nwin_55 nway_55 = some o38 → (∀ o38l, o38 = .inl o38l → ∀ (ls : Array Slot) (H : Heap) (locs : List Loc), lv_has ls 5 [(0, .ref (x0)), (1, .long o38l.1)] → va_P D vwCl (XW x0 s0 s1 e0 E A B G T t (x_length μ, x_codes μ, x_rest μ, o38l.2.1, o38l.2.2.1, o38l.2.2.2.1, o38l.2.2.2.2.1, o38l.2.2.2.2.2.1, o38l.2.2.2.2.2.2.1, o38l.2.2.2.2.2.2.2.1, o38l.2.2.2.2.2.2.2.2.1, o38l.2.2.2.2.2.2.2.2.2, x_wide μ, x_high μ, x_pond μ, x_walls μ, x_paved μ, x_tc μ, x_flips μ, x_refused μ, x_names μ, x_sl μ, x_lmod μ, x_lsize μ)) H → va_D (OA (XL x0 s0 s1 e0 E A B G T μ) s.heap.size) (XW x0 s0 s1 e0 E A B G T t (x_length μ, x_codes μ, x_rest μ, o38l.2.1, o38l.2.2.1, o38l.2.2.2.1, o38l.2.2.2.2.1, o38l.2.2.2.2.2.1, o38l.2.2.2.2.2.2.1, o38l.2.2.2.2.2.2.2.1, o38l.2.2.2.2.2.2.2.2.1, o38l.2.2.2.2.2.2.2.2.2, x_wide μ, x_high μ, x_pond μ, x_walls μ, x_paved μ, x_tc μ, x_flips μ, x_refused μ, x_names μ, x_sl μ, x_lmod μ, x_lsize μ)) → va_S (OA (XL x0 s0 s1 e0 E A B G T μ) s.heap.size) s.heap H locs → W p l e (headSpec (ws_ yX4_digest cX4_digest 5 (some .long)) rm_X4_digest).room s m ([.ref (x0)] : List Value).toArray below meth c H locs 0 0 (MQ below (QM (some (.long res.1)) D (XW x0 s0 s1 e0 E A B G T t (x_length μ, x_codes μ, x_rest μ, res.2.1, res.2.2.1, res.2.2.2.1, res.2.2.2.2.1, res.2.2.2.2.2.1, res.2.2.2.2.2.2.1, res.2.2.2.2.2.2.2.1, res.2.2.2.2.2.2.2.2.1, res.2.2.2.2.2.2.2.2.2, x_wide μ, x_high μ, x_pond μ, x_walls μ, x_paved μ, x_tc μ, x_flips μ, x_refused μ, x_names μ, x_sl μ, x_lmod μ, x_lsize μ)) (XL x0 s0 s1 e0 E A B G T μ) s.heap.size) ([.ref (x0)] : List Value).toArray s 0 0 (OA (XL x0 s0 s1 e0 E A B G T μ) s.heap.size)) (F0 m 97 ls [])) → (∀ r9, o38 = .inr r9 → r9 = (.inl res)) → ∀ (ls : Array Slot) (H : Heap) (locs : List Loc), lv_has ls 5 [(0, .ref (x0)), (1, .long y1_55), (3, .int y3_55)] → va_P D vwCl (XW x0 s0 s1 e0 E A B G T t (x_length μ, x_codes μ, x_rest μ, takes_55, u1_55, u2_55, hsz_55, hwin_55, hway_55, nsz_55, nwin_55, nway_55, x_wide μ, x_high μ, x_pond μ, x_walls μ, x_paved μ, x_tc μ, x_flips μ, x_refused μ, x_names μ, x_sl μ, x_lmod μ, x_lsize μ)) H → va_D (OA (XL x0 s0 s1 e0 E A B G T μ) s.heap.size) (XW x0 s0 s1 e0 E A B G T t (x_length μ, x_codes μ, x_rest μ, takes_55, u1_55, u2_55, hsz_55, hwin_55, hway_55, nsz_55, nwin_55, nway_55, x_wide μ, x_high μ, x_pond μ, x_walls μ, x_paved μ, x_tc μ, x_flips μ, x_refused μ, x_names μ, x_sl μ, x_lmod μ, x_lsize μ)) → va_S (OA (XL x0 s0 s1 e0 E A B G T μ) s.heap.size) s.heap H locs → W p l e (headSpec (ws_ yX4_digest cX4_digest 5 (some .long)) rm_X4_digest).room s m ([.ref (x0)] : List Value).toArray below meth c H locs 0 0 (MQ below (QM (some (.long res.1)) D (XW x0 s0 s1 e0 E A B G T t (x_length μ, x_codes μ, x_rest μ, res.2.1, res.2.2.1, res.2.2.2.1, res.2.2.2.2.1, res.2.2.2.2.2.1, res.2.2.2.2.2.2.1, res.2.2.2.2.2.2.2.1, res.2.2.2.2.2.2.2.2.1, res.2.2.2.2.2.2.2.2.2, x_wide μ, x_high μ, x_pond μ, x_walls μ, x_paved μ, x_tc μ, x_flips μ, x_refused μ, x_names μ, x_sl μ, x_lmod μ, x_lsize μ)) (XL x0 s0 s1 e0 E A B G T μ) s.heap.size) ([.ref (x0)] : List Value).toArray s 0 0 (OA (XL x0 s0 s1 e0 E A B G T μ) s.heap.size)) (F0 m 55 ls []) := by
            intro n
            induction n with
            | zero => intro y1_55 y3_55 takes_55 u1_55 u2_55 hsz_55 hwin_55 hway_55 nsz_55 nwin_55 nway_55 o38 h; exact absurd h (fun z => by cases z)
            | succ n ih =>
              intro y1_55 y3_55 takes_55 u1_55 u2_55 hsz_55 hwin_55 hway_55 nsz_55 nwin_55 nway_55 o38 h hK55 hR55 ls H locs hl hP hD hS
              replace h : f_X4_digest_L55_b μ (f_X4_digest_L55 μ n) y1_55 y3_55 takes_55 u1_55 u2_55 hsz_55 hwin_55 hway_55 nsz_55 nwin_55 nway_55 = some o38 := h
              unfold f_X4_digest_L55_b at h
              have hSz : s.heap.size ≤ H.size := hS.1
              refine lv_iload_n hx hb dX4_digest_55 rfl (lv_at hl 2 rfl) ?_
              refine lv_iconst (v := (3)) hx hb dX4_digest_56 (by decide) ?_
              refine lv_icmp_ge (tgt := 97) hx hb dX4_digest_57 (by decide) (fun hc => ?_) (fun hc => ?_)
              · have h := iteT hc h
                obtain rfl := Option.some.inj h
                exact hK55 _ rfl ls H locs (lv_sub hl [0, 1] rfl) hP hD hS
              · have h := iteF hc h
                refine lv_iconst (v := (0)) hx hb dX4_digest_60 (by decide) ?_
                refine lv_istore (lv' := [(4, .int (0 : Int32)), (0, .ref (x0)), (1, .long y1_55), (3, .int y3_55)]) hx hb dX4_digest_61 hl (by decide) rfl (fun ls hl => ?_)
                obtain ⟨o45, eo45, h⟩ := obind h
                have hL63 : ∀ (n : Nat) (y1_63 : Int64) (y4_63 : Int32) (takes_63 : Nat → Int32) (u1_63 : Nat → Nat) (u2_63 : Nat → Nat) (hsz_63 : Int32) (hwin_63 : Nat → Int32) (hway_63 : Nat → Int32) (nsz_63 : Int32) (nwin_63 : Nat → Int32) (nway_63 : Nat → Int32) (o45 : (Int64 × (Nat → Int32) × (Nat → Nat) × (Nat → Nat) × (Int32) × (Nat → Int32) × (Nat → Int32) × (Int32) × (Nat → Int32) × (Nat → Int32)) ⊕ ((Int64 × (Nat → Int32) × (Nat → Nat) × (Nat → Nat) × (Int32) × (Nat → Int32) × (Nat → Int32) × (Int32) × (Nat → Int32) × (Nat → Int32)) ⊕ (String))), f_X4_digest_L63 μ y3_55 n y1_63 y4_63 takes_63 u1_63 u2_63 hsz_63 hwin_63 hway_63 nsz_63 nwin_63 nway_63 = some o45 → (∀ o45l, o45 = .inl o45l → ∀ (ls : Array Slot) (H : Heap) (locs : List Loc), lv_has ls 5 [(0, .ref (x0)), (1, .long o45l.1), (3, .int y3_55)] → va_P D vwCl (XW x0 s0 s1 e0 E A B G T t (x_length μ, x_codes μ, x_rest μ, o45l.2.1, o45l.2.2.1, o45l.2.2.2.1, o45l.2.2.2.2.1, o45l.2.2.2.2.2.1, o45l.2.2.2.2.2.2.1, o45l.2.2.2.2.2.2.2.1, o45l.2.2.2.2.2.2.2.2.1, o45l.2.2.2.2.2.2.2.2.2, x_wide μ, x_high μ, x_pond μ, x_walls μ, x_paved μ, x_tc μ, x_flips μ, x_refused μ, x_names μ, x_sl μ, x_lmod μ, x_lsize μ)) H → va_D (OA (XL x0 s0 s1 e0 E A B G T μ) s.heap.size) (XW x0 s0 s1 e0 E A B G T t (x_length μ, x_codes μ, x_rest μ, o45l.2.1, o45l.2.2.1, o45l.2.2.2.1, o45l.2.2.2.2.1, o45l.2.2.2.2.2.1, o45l.2.2.2.2.2.2.1, o45l.2.2.2.2.2.2.2.1, o45l.2.2.2.2.2.2.2.2.1, o45l.2.2.2.2.2.2.2.2.2, x_wide μ, x_high μ, x_pond μ, x_walls μ, x_paved μ, x_tc μ, x_flips μ, x_refused μ, x_names μ, x_sl μ, x_lmod μ, x_lsize μ)) → va_S (OA (XL x0 s0 s1 e0 E A B G T μ) s.heap.size) s.heap H locs → W p l e (headSpec (ws_ yX4_digest cX4_digest 5 (some .long)) rm_X4_digest).room s m ([.ref (x0)] : List Value).toArray below meth c H locs 0 0 (MQ below (QM (some (.long res.1)) D (XW x0 s0 s1 e0 E A B G T t (x_length μ, x_codes μ, x_rest μ, res.2.1, res.2.2.1, res.2.2.2.1, res.2.2.2.2.1, res.2.2.2.2.2.1, res.2.2.2.2.2.2.1, res.2.2.2.2.2.2.2.1, res.2.2.2.2.2.2.2.2.1, res.2.2.2.2.2.2.2.2.2, x_wide μ, x_high μ, x_pond μ, x_walls μ, x_paved μ, x_tc μ, x_flips μ, x_refused μ, x_names μ, x_sl μ, x_lmod μ, x_lsize μ)) (XL x0 s0 s1 e0 E A B G T μ) s.heap.size) ([.ref (x0)] : List Value).toArray s 0 0 (OA (XL x0 s0 s1 e0 E A B G T μ) s.heap.size)) (F0 m 91 ls [])) → (∀ r9, o45 = .inr r9 → r9 = (.inl res)) → ∀ (ls : Array Slot) (H : Heap) (locs : List Loc), lv_has ls 5 [(0, .ref (x0)), (1, .long y1_63), (3, .int y3_55), (4, .int y4_63)] → va_P D vwCl (XW x0 s0 s1 e0 E A B G T t (x_length μ, x_codes μ, x_rest μ, takes_63, u1_63, u2_63, hsz_63, hwin_63, hway_63, nsz_63, nwin_63, nway_63, x_wide μ, x_high μ, x_pond μ, x_walls μ, x_paved μ, x_tc μ, x_flips μ, x_refused μ, x_names μ, x_sl μ, x_lmod μ, x_lsize μ)) H → va_D (OA (XL x0 s0 s1 e0 E A B G T μ) s.heap.size) (XW x0 s0 s1 e0 E A B G T t (x_length μ, x_codes μ, x_rest μ, takes_63, u1_63, u2_63, hsz_63, hwin_63, hway_63, nsz_63, nwin_63, nway_63, x_wide μ, x_high μ, x_pond μ, x_walls μ, x_paved μ, x_tc μ, x_flips μ, x_refused μ, x_names μ, x_sl μ, x_lmod μ, x_lsize μ)) → va_S (OA (XL x0 s0 s1 e0 E A B G T μ) s.heap.size) s.heap H locs → W p l e (headSpec (ws_ yX4_digest cX4_digest 5 (some .long)) rm_X4_digest).room s m ([.ref (x0)] : List Value).toArray below meth c H locs 0 0 (MQ below (QM (some (.long res.1)) D (XW x0 s0 s1 e0 E A B G T t (x_length μ, x_codes μ, x_rest μ, res.2.1, res.2.2.1, res.2.2.2.1, res.2.2.2.2.1, res.2.2.2.2.2.1, res.2.2.2.2.2.2.1, res.2.2.2.2.2.2.2.1, res.2.2.2.2.2.2.2.2.1, res.2.2.2.2.2.2.2.2.2, x_wide μ, x_high μ, x_pond μ, x_walls μ, x_paved μ, x_tc μ, x_flips μ, x_refused μ, x_names μ, x_sl μ, x_lmod μ, x_lsize μ)) (XL x0 s0 s1 e0 E A B G T μ) s.heap.size) ([.ref (x0)] : List Value).toArray s 0 0 (OA (XL x0 s0 s1 e0 E A B G T μ) s.heap.size)) (F0 m 63 ls []) := by
                  intro n
                  induction n with
                  | zero => intro y1_63 y4_63 takes_63 u1_63 u2_63 hsz_63 hwin_63 hway_63 nsz_63 nwin_63 nway_63 o45 h; exact absurd h (fun z => by cases z)
                  | succ n ih =>
                    intro y1_63 y4_63 takes_63 u1_63 u2_63 hsz_63 hwin_63 hway_63 nsz_63 nwin_63 nway_63 o45 h hK63 hR63 ls H locs hl hP hD hS
                    replace h : f_X4_digest_L63_b μ y3_55 (f_X4_digest_L63 μ y3_55 n) y1_63 y4_63 takes_63 u1_63 u2_63 hsz_63 hwin_63 hway_63 nsz_63 nwin_63 nway_63 = some o45 := h
                    unfold f_X4_digest_L63_b at h
                    have hSz : s.heap.size ≤ H.size := hS.1
                    refine lv_iload hx hb dX4_digest_63 (lv_at hl 3 rfl) ?_
                    refine lv_iconst (v := (4)) hx hb dX4_digest_65 (by decide) ?_
                    refine lv_icmp_ge (tgt := 91) hx hb dX4_digest_66 (by decide) (fun hc => ?_) (fun hc => ?_)
                    · have h := iteT hc h
                      obtain rfl := Option.some.inj h
                      exact hK63 _ rfl ls H locs (lv_sub hl [0, 1, 2] rfl) hP hD hS
                    · have h := iteF hc h
                      refine lv_lload_n hx hb dX4_digest_69 rfl (lv_at hl 1 rfl) ?_
                      refine lv_aload_n hx hb dX4_digest_70 rfl (lv_at hl 0 rfl) ?_
                      refine lv_iload_n hx hb dX4_digest_71 rfl (lv_at hl 2 rfl) ?_
                      refine lv_iload_n hx hb dX4_digest_72 rfl (lv_at hl 2 rfl) ?_
                      refine lv_iconst (v := (2)) hx hb dX4_digest_73 (by decide) ?_
                      refine lv_irem hx hb dX4_digest_74 (by decide) ?_
                      refine lv_iload hx hb dX4_digest_75 (lv_at hl 3 rfl) ?_
                      obtain ⟨r46o, er46, h⟩ := obind h
                      rcases r46o with r46 | Er46
                      · replace h := sumL h
                        refine call_M (va_runV (As := [.int y3_55, .int (y3_55 - y3_55 / (2 : Int32) * (2 : Int32)), .int y4_63]) (rest := [.long y1_63]) ⟨hx, hb, hml, hown, hts⟩ (c_X4_waysWith l z0 D t x0 s0 s1 e0 E A B G T (x_length μ, x_codes μ, x_rest μ, takes_63, u1_63, u2_63, hsz_63, hwin_63, hway_63, nsz_63, nwin_63, nway_63, x_wide μ, x_high μ, x_pond μ, x_walls μ, x_paved μ, x_tc μ, x_flips μ, x_refused μ, x_names μ, x_sl μ, x_lmod μ, x_lsize μ) y3_55 (y3_55 - y3_55 / (2 : Int32) * (2 : Int32)) y4_63 _ H.size er46) (kV hts qw610 qw611 qw612 qw1 qw613 ok_X4_waysWith ⟨Nat.le_of_ble_eq_true rfl, Nat.le_of_ble_eq_true rfl⟩) ⟨PM.blind, va_recv hK hP (ci := 5) (q0 := 0) rfl rfl, fun U hU hW => ⟨rfl, by rw [hU]; exact (hC.at hS hZ).warm hW, by rw [hU], by rw [hU]; exact hP, ⟨hD.1, fun _ _ h9 => Or.inl (in_map (L := (XL x0 s0 s1 e0 E A B G T (x_length μ, x_codes μ, x_rest μ, takes_63, u1_63, u2_63, hsz_63, hwin_63, hway_63, nsz_63, nwin_63, nway_63, x_wide μ, x_high μ, x_pond μ, x_walls μ, x_paved μ, x_tc μ, x_flips μ, x_refused μ, x_names μ, x_sl μ, x_lmod μ, x_lsize μ))) rfl h9)⟩, fun q hq => hZ q (OA.ofD hD rfl hSz q hq)⟩⟩ rfl rfl hl.1 rfl (lv_room (Nat.le_of_ble_eq_true rfl)) dX4_digest_77 ⟨Nat.le_of_ble_eq_true rfl, Nat.le_of_ble_eq_true rfl⟩) hS (OA.ofD hD rfl hSz) (fun H locs hP hD1 hS _ _ => ?_)
                        have hP : va_P D vwCl (XW x0 s0 s1 e0 E A B G T t (x_length μ, x_codes μ, x_rest μ, r46.2.1, r46.2.2.1, r46.2.2.2.1, r46.2.2.2.2.1, r46.2.2.2.2.2.1, r46.2.2.2.2.2.2.1, r46.2.2.2.2.2.2.2.1, r46.2.2.2.2.2.2.2.2.1, r46.2.2.2.2.2.2.2.2.2, x_wide μ, x_high μ, x_pond μ, x_walls μ, x_paved μ, x_tc μ, x_flips μ, x_refused μ, x_names μ, x_sl μ, x_lmod μ, x_lsize μ)) H := hP
                        have hD : va_D (OA (XL x0 s0 s1 e0 E A B G T μ) s.heap.size) (XW x0 s0 s1 e0 E A B G T t (x_length μ, x_codes μ, x_rest μ, r46.2.1, r46.2.2.1, r46.2.2.2.1, r46.2.2.2.2.1, r46.2.2.2.2.2.1, r46.2.2.2.2.2.2.1, r46.2.2.2.2.2.2.2.1, r46.2.2.2.2.2.2.2.2.1, r46.2.2.2.2.2.2.2.2.2, x_wide μ, x_high μ, x_pond μ, x_walls μ, x_paved μ, x_tc μ, x_flips μ, x_refused μ, x_names μ, x_sl μ, x_lmod μ, x_lsize μ)) := hD1.weaken (fun _ q _ h9 => OA.ofD hD rfl hSz q.1 h9)
                        have hSz : s.heap.size ≤ H.size := hS.1
                        refine lv_i2l hx hb dX4_digest_80 rfl ?_
                        obtain ⟨r47, er47, h⟩ := obind h
                        refine call_R (va_runS (As := [.long y1_63, .long r46.1.toInt64]) (rest := []) ⟨hx, hb, hml, hown, hts⟩ (c_X4_mixed l z0 D t y1_63 r46.1.toInt64 _ er47) (kS hts qw539 qw540 qw1 qw541 ok_X4_mixed ⟨Nat.le_of_ble_eq_true rfl, Nat.le_of_ble_eq_true rfl⟩) ⟨PR.blind, fun U hU hW => ⟨rfl, by rw [hU]; exact (hC.at hS hZ).warm hW, by rw [hU]; exact va_P_nil⟩⟩ rfl rfl hl.1 rfl (lv_room (Nat.le_of_ble_eq_true rfl)) dX4_digest_81 ⟨Nat.le_of_ble_eq_true rfl, Nat.le_of_ble_eq_true rfl⟩) ?_
                        refine lv_lstore_n (lv' := [(1, .long r47), (0, .ref (x0)), (3, .int y3_55), (4, .int y4_63)]) hx hb dX4_digest_84 rfl hl (by decide) rfl (fun ls hl => ?_)
                        obtain ⟨x48, ex48, h⟩ := jlet_some h
                        refine lv_iinc (v := x48) (lv' := [(4, .int x48), (1, .long r47), (0, .ref (x0)), (3, .int y3_55)]) hx hb dX4_digest_85 hl (k := 3) rfl (by rw [ex48]; rfl) (by decide) rfl (fun ls hl => ?_)
                        refine lv_goto (tgt := 63) hx hb dX4_digest_88 (by decide) ?_
                        exact ih _ _ _ _ _ _ _ _ _ _ _ _ h hK63 hR63 ls H locs (lv_sub hl [2, 1, 3, 0] rfl) hP hD hS
                      · replace h := sumR h
                        have e9 := hR63 _ (Option.some.inj h).symm
                        exact absurd e9 (fun z => by cases z)
                refine hL63 _ _ _ _ _ _ _ _ _ _ _ _ _ eo45 (fun o45l eq9 ls H locs hl hP hD hS => ?_) (fun r9 eq9 => ?_) ls H locs (lv_sub hl [1, 2, 3, 0] rfl) hP hD hS
                · subst eq9
                  replace h := sumL h
                  have hSz : s.heap.size ≤ H.size := hS.1
                  obtain ⟨x49, ex49, h⟩ := jlet_some h
                  refine lv_iinc (v := x49) (lv' := [(3, .int x49), (0, .ref (x0)), (1, .long o45l.1)]) hx hb dX4_digest_91 hl (k := 2) rfl (by rw [ex49]; rfl) (by decide) rfl (fun ls hl => ?_)
                  refine lv_goto (tgt := 55) hx hb dX4_digest_94 (by decide) ?_
                  exact ih _ _ _ _ _ _ _ _ _ _ _ _ h hK55 hR55 ls H locs (lv_sub hl [1, 2, 0] rfl) hP hD hS
                · subst eq9
                  replace h := sumR h
                  exact hR55 _ (Option.some.inj h).symm
          refine hL55 _ _ _ _ _ _ _ _ _ _ _ _ _ eo38 (fun o38l eq9 ls H locs hl hP hD hS => ?_) (fun r9 eq9 => ?_) ls H locs (lv_sub hl [2, 1, 0] rfl) hP hD hS
          · subst eq9
            replace h := sumL h
            have hSz : s.heap.size ≤ H.size := hS.1
            refine lv_lload_n hx hb dX4_digest_97 rfl (lv_at hl 1 rfl) ?_
            refine lv_aload_n hx hb dX4_digest_98 rfl (lv_at hl 0 rfl) ?_
            refine lv_iconst (v := (0)) hx hb dX4_digest_99 (by decide) ?_
            obtain ⟨r50o, er50, h⟩ := obind h
            rcases r50o with r50 | Er50
            · replace h := sumL h
              refine call_R (va_runV (As := [.int (0 : Int32)]) (rest := [.long o38l.1]) ⟨hx, hb, hml, hown, hts⟩ (c_X4_forced l z0 D t x0 s0 s1 e0 E A B G T (x_length μ, x_codes μ, x_rest μ, o38l.2.1, o38l.2.2.1, o38l.2.2.2.1, o38l.2.2.2.2.1, o38l.2.2.2.2.2.1, o38l.2.2.2.2.2.2.1, o38l.2.2.2.2.2.2.2.1, o38l.2.2.2.2.2.2.2.2.1, o38l.2.2.2.2.2.2.2.2.2, x_wide μ, x_high μ, x_pond μ, x_walls μ, x_paved μ, x_tc μ, x_flips μ, x_refused μ, x_names μ, x_sl μ, x_lmod μ, x_lsize μ) (0 : Int32) _ er50) (kV hts qw621 qw622 qw623 qw1 qw624 ok_X4_forced ⟨Nat.le_of_ble_eq_true rfl, Nat.le_of_ble_eq_true rfl⟩) ⟨PR.blind, va_recv hK hP (ci := 5) (q0 := 0) rfl rfl, fun U hU hW => ⟨rfl, by rw [hU]; exact (hC.at hS hZ).warm hW, by rw [hU]; exact hP⟩⟩ rfl rfl hl.1 rfl (lv_room (Nat.le_of_ble_eq_true rfl)) dX4_digest_100 ⟨Nat.le_of_ble_eq_true rfl, Nat.le_of_ble_eq_true rfl⟩) ?_
              refine lv_i2l hx hb dX4_digest_103 rfl ?_
              obtain ⟨r51, er51, h⟩ := obind h
              refine call_R (va_runS (As := [.long o38l.1, .long r50.toInt64]) (rest := []) ⟨hx, hb, hml, hown, hts⟩ (c_X4_mixed l z0 D t o38l.1 r50.toInt64 _ er51) (kS hts qw539 qw540 qw1 qw541 ok_X4_mixed ⟨Nat.le_of_ble_eq_true rfl, Nat.le_of_ble_eq_true rfl⟩) ⟨PR.blind, fun U hU hW => ⟨rfl, by rw [hU]; exact (hC.at hS hZ).warm hW, by rw [hU]; exact va_P_nil⟩⟩ rfl rfl hl.1 rfl (lv_room (Nat.le_of_ble_eq_true rfl)) dX4_digest_104 ⟨Nat.le_of_ble_eq_true rfl, Nat.le_of_ble_eq_true rfl⟩) ?_
              refine lv_aload_n hx hb dX4_digest_107 rfl (lv_at hl 0 rfl) ?_
              refine lv_iconst (v := (1)) hx hb dX4_digest_108 (by decide) ?_
              obtain ⟨r52o, er52, h⟩ := obind h
              rcases r52o with r52 | Er52
              · replace h := sumL h
                refine call_R (va_runV (As := [.int (1 : Int32)]) (rest := [.long r51]) ⟨hx, hb, hml, hown, hts⟩ (c_X4_forced l z0 D t x0 s0 s1 e0 E A B G T (x_length μ, x_codes μ, x_rest μ, o38l.2.1, o38l.2.2.1, o38l.2.2.2.1, o38l.2.2.2.2.1, o38l.2.2.2.2.2.1, o38l.2.2.2.2.2.2.1, o38l.2.2.2.2.2.2.2.1, o38l.2.2.2.2.2.2.2.2.1, o38l.2.2.2.2.2.2.2.2.2, x_wide μ, x_high μ, x_pond μ, x_walls μ, x_paved μ, x_tc μ, x_flips μ, x_refused μ, x_names μ, x_sl μ, x_lmod μ, x_lsize μ) (1 : Int32) _ er52) (kV hts qw621 qw622 qw623 qw1 qw624 ok_X4_forced ⟨Nat.le_of_ble_eq_true rfl, Nat.le_of_ble_eq_true rfl⟩) ⟨PR.blind, va_recv hK hP (ci := 5) (q0 := 0) rfl rfl, fun U hU hW => ⟨rfl, by rw [hU]; exact (hC.at hS hZ).warm hW, by rw [hU]; exact hP⟩⟩ rfl rfl hl.1 rfl (lv_room (Nat.le_of_ble_eq_true rfl)) dX4_digest_109 ⟨Nat.le_of_ble_eq_true rfl, Nat.le_of_ble_eq_true rfl⟩) ?_
                refine lv_i2l hx hb dX4_digest_112 rfl ?_
                obtain ⟨r53, er53, h⟩ := obind h
                refine call_R (va_runS (As := [.long r51, .long r52.toInt64]) (rest := []) ⟨hx, hb, hml, hown, hts⟩ (c_X4_mixed l z0 D t r51 r52.toInt64 _ er53) (kS hts qw539 qw540 qw1 qw541 ok_X4_mixed ⟨Nat.le_of_ble_eq_true rfl, Nat.le_of_ble_eq_true rfl⟩) ⟨PR.blind, fun U hU hW => ⟨rfl, by rw [hU]; exact (hC.at hS hZ).warm hW, by rw [hU]; exact va_P_nil⟩⟩ rfl rfl hl.1 rfl (lv_room (Nat.le_of_ble_eq_true rfl)) dX4_digest_113 ⟨Nat.le_of_ble_eq_true rfl, Nat.le_of_ble_eq_true rfl⟩) ?_
                refine lv_lstore_n (lv' := [(1, .long r53), (0, .ref (x0))]) hx hb dX4_digest_116 rfl hl (by decide) rfl (fun ls hl => ?_)
                refine lv_lload_n hx hb dX4_digest_117 rfl (lv_at hl 0 rfl) ?_
                refine lv_aload_n hx hb dX4_digest_118 rfl (lv_at hl 1 rfl) ?_
                obtain ⟨r54, er54, h⟩ := obind h
                refine call_R (va_runV (As := []) (rest := [.long r53]) ⟨hx, hb, hml, hown, hts⟩ (c_X4_lonely l z0 D t x0 s0 s1 e0 E A B G T (x_length μ, x_codes μ, x_rest μ, o38l.2.1, o38l.2.2.1, o38l.2.2.2.1, o38l.2.2.2.2.1, o38l.2.2.2.2.2.1, o38l.2.2.2.2.2.2.1, o38l.2.2.2.2.2.2.2.1, o38l.2.2.2.2.2.2.2.2.1, o38l.2.2.2.2.2.2.2.2.2, x_wide μ, x_high μ, x_pond μ, x_walls μ, x_paved μ, x_tc μ, x_flips μ, x_refused μ, x_names μ, x_sl μ, x_lmod μ, x_lsize μ) _ er54) (kV hts qw633 qw335 qw336 qw1 qw337 ok_X4_lonely ⟨Nat.le_of_ble_eq_true rfl, Nat.le_of_ble_eq_true rfl⟩) ⟨PR.blind, va_recv hK hP (ci := 5) (q0 := 0) rfl rfl, fun U hU hW => ⟨rfl, by rw [hU]; exact (hC.at hS hZ).warm hW, by rw [hU]; exact hP⟩⟩ rfl rfl hl.1 rfl (lv_room (Nat.le_of_ble_eq_true rfl)) dX4_digest_119 ⟨Nat.le_of_ble_eq_true rfl, Nat.le_of_ble_eq_true rfl⟩) ?_
                refine lv_i2l hx hb dX4_digest_122 rfl ?_
                obtain ⟨r55, er55, h⟩ := obind h
                refine call_R (va_runS (As := [.long r53, .long r54.toInt64]) (rest := []) ⟨hx, hb, hml, hown, hts⟩ (c_X4_mixed l z0 D t r53 r54.toInt64 _ er55) (kS hts qw539 qw540 qw1 qw541 ok_X4_mixed ⟨Nat.le_of_ble_eq_true rfl, Nat.le_of_ble_eq_true rfl⟩) ⟨PR.blind, fun U hU hW => ⟨rfl, by rw [hU]; exact (hC.at hS hZ).warm hW, by rw [hU]; exact va_P_nil⟩⟩ rfl rfl hl.1 rfl (lv_room (Nat.le_of_ble_eq_true rfl)) dX4_digest_123 ⟨Nat.le_of_ble_eq_true rfl, Nat.le_of_ble_eq_true rfl⟩) ?_
                refine lv_aload_n hx hb dX4_digest_126 rfl (lv_at hl 1 rfl) ?_
                obtain ⟨r56, er56, h⟩ := obind h
                refine call_R (va_runV (As := []) (rest := [.long r55]) ⟨hx, hb, hml, hown, hts⟩ (c_X4_pavedShare l z0 D t x0 s0 s1 e0 E A B G T (x_length μ, x_codes μ, x_rest μ, o38l.2.1, o38l.2.2.1, o38l.2.2.2.1, o38l.2.2.2.2.1, o38l.2.2.2.2.2.1, o38l.2.2.2.2.2.2.1, o38l.2.2.2.2.2.2.2.1, o38l.2.2.2.2.2.2.2.2.1, o38l.2.2.2.2.2.2.2.2.2, x_wide μ, x_high μ, x_pond μ, x_walls μ, x_paved μ, x_tc μ, x_flips μ, x_refused μ, x_names μ, x_sl μ, x_lmod μ, x_lsize μ) _ er56) (kV hts qw634 qw413 qw414 qw1 qw415 ok_X4_pavedShare ⟨Nat.le_of_ble_eq_true rfl, Nat.le_of_ble_eq_true rfl⟩) ⟨PR.blind, va_recv hK hP (ci := 5) (q0 := 0) rfl rfl, fun U hU hW => ⟨rfl, by rw [hU]; exact (hC.at hS hZ).warm hW, by rw [hU]; exact hP⟩⟩ rfl rfl hl.1 rfl (lv_room (Nat.le_of_ble_eq_true rfl)) dX4_digest_127 ⟨Nat.le_of_ble_eq_true rfl, Nat.le_of_ble_eq_true rfl⟩) ?_
                obtain ⟨r57, er57, h⟩ := obind h
                refine call_R (va_runS (As := [.double r56]) (rest := [.long r55]) ⟨hx, hb, hml, hown, hts⟩ (c_X4_shareBits l z0 D t r56 _ er57) (kS hts qw635 qw636 qw1 qw637 ok_X4_shareBits ⟨Nat.le_of_ble_eq_true rfl, Nat.le_of_ble_eq_true rfl⟩) ⟨PR.blind, fun U hU hW => ⟨rfl, by rw [hU]; exact (hC.at hS hZ).warm hW, by rw [hU]; exact va_P_nil⟩⟩ rfl rfl hl.1 rfl (lv_room (Nat.le_of_ble_eq_true rfl)) dX4_digest_130 ⟨Nat.le_of_ble_eq_true rfl, Nat.le_of_ble_eq_true rfl⟩) ?_
                obtain ⟨r58, er58, h⟩ := obind h
                refine call_R (va_runS (As := [.long r55, .long r57]) (rest := []) ⟨hx, hb, hml, hown, hts⟩ (c_X4_mixed l z0 D t r55 r57 _ er58) (kS hts qw539 qw540 qw1 qw541 ok_X4_mixed ⟨Nat.le_of_ble_eq_true rfl, Nat.le_of_ble_eq_true rfl⟩) ⟨PR.blind, fun U hU hW => ⟨rfl, by rw [hU]; exact (hC.at hS hZ).warm hW, by rw [hU]; exact va_P_nil⟩⟩ rfl rfl hl.1 rfl (lv_room (Nat.le_of_ble_eq_true rfl)) dX4_digest_133 ⟨Nat.le_of_ble_eq_true rfl, Nat.le_of_ble_eq_true rfl⟩) ?_
                refine lv_lstore_n (lv' := [(1, .long r58), (0, .ref (x0))]) hx hb dX4_digest_136 rfl hl (by decide) rfl (fun ls hl => ?_)
                refine lv_aload_n hx hb dX4_digest_137 rfl (lv_at hl 1 rfl) ?_
                refine lv_aload_n hx hb dX4_digest_138 rfl (lv_at hl 1 rfl) ?_
                refine lv_lload_n hx hb dX4_digest_139 rfl (lv_at hl 0 rfl) ?_
                obtain ⟨r59, er59, h⟩ := obind h
                refine call_R (va_runV (As := [.long r58]) (rest := [.ref (x0)]) ⟨hx, hb, hml, hown, hts⟩ (c_X4_mixedSlots l z0 D t x0 s0 s1 e0 E A B G T (x_length μ, x_codes μ, x_rest μ, o38l.2.1, o38l.2.2.1, o38l.2.2.2.1, o38l.2.2.2.2.1, o38l.2.2.2.2.2.1, o38l.2.2.2.2.2.2.1, o38l.2.2.2.2.2.2.2.1, o38l.2.2.2.2.2.2.2.2.1, o38l.2.2.2.2.2.2.2.2.2, x_wide μ, x_high μ, x_pond μ, x_walls μ, x_paved μ, x_tc μ, x_flips μ, x_refused μ, x_names μ, x_sl μ, x_lmod μ, x_lsize μ) r58 _ er59) (kV hts qw641 qw643 qs21 qw1 qw644 ok_X4_mixedSlots ⟨Nat.le_of_ble_eq_true rfl, Nat.le_of_ble_eq_true rfl⟩) ⟨PR.blind, va_recv hK hP (ci := 5) (q0 := 0) rfl rfl, fun U hU hW => ⟨rfl, by rw [hU]; exact (hC.at hS hZ).warm hW, by rw [hU]; exact hP⟩⟩ rfl rfl hl.1 rfl (lv_room (Nat.le_of_ble_eq_true rfl)) dX4_digest_140 ⟨Nat.le_of_ble_eq_true rfl, Nat.le_of_ble_eq_true rfl⟩) ?_
                obtain ⟨r60, er60, h⟩ := obind h
                refine call_R (va_runV (As := [.long r59]) (rest := []) ⟨hx, hb, hml, hown, hts⟩ (c_X4_mixedBuffer l z0 D t x0 s0 s1 e0 E A B G T (x_length μ, x_codes μ, x_rest μ, o38l.2.1, o38l.2.2.1, o38l.2.2.2.1, o38l.2.2.2.2.1, o38l.2.2.2.2.2.1, o38l.2.2.2.2.2.2.1, o38l.2.2.2.2.2.2.2.1, o38l.2.2.2.2.2.2.2.2.1, o38l.2.2.2.2.2.2.2.2.2, x_wide μ, x_high μ, x_pond μ, x_walls μ, x_paved μ, x_tc μ, x_flips μ, x_refused μ, x_names μ, x_sl μ, x_lmod μ, x_lsize μ) r59 _ er60) (kV hts qw645 qw647 qs22 qw1 qw648 ok_X4_mixedBuffer ⟨Nat.le_of_ble_eq_true rfl, Nat.le_of_ble_eq_true rfl⟩) ⟨PR.blind, va_recv hK hP (ci := 5) (q0 := 0) rfl rfl, fun U hU hW => ⟨rfl, by rw [hU]; exact (hC.at hS hZ).warm hW, by rw [hU]; exact hP⟩⟩ rfl rfl hl.1 rfl (lv_room (Nat.le_of_ble_eq_true rfl)) dX4_digest_143 ⟨Nat.le_of_ble_eq_true rfl, Nat.le_of_ble_eq_true rfl⟩) ?_
                obtain rfl := Sum.inl.inj (Option.some.inj h)
                exact W.lret hx hb hr (fun t ht hW => ⟨rfl, by rw [ht]; exact hP, hD, hS.F ht⟩) hS.2.2 dX4_digest_146
              · replace h := sumR h
                exact absurd (Option.some.inj h) (fun z => by cases z)
            · replace h := sumR h
              exact absurd (Option.some.inj h) (fun z => by cases z)
          · subst eq9
            replace h := sumR h
            exact Option.some.inj h
        · replace h := sumR h
          exact absurd (Option.some.inj h) (fun z => by cases z)
      · replace h := sumR h
        exact absurd (Option.some.inj h) (fun z => by cases z)
    · replace h := sumR h
      exact absurd (Option.some.inj h) (fun z => by cases z)
  · subst eq9
    replace h := sumR h
    exact Option.some.inj h

abbrev rm_J3_checkIndex_8e157 : Room := { frames := 1, cells := 0, slots := 0, locals := 40 }
theorem ok_J3_checkIndex_8e157 : okY yJ3_checkIndex_8e157 3 := ⟨by decide +kernel, by decide +kernel, by decide +kernel⟩
set_option maxHeartbeats 4000000 in
set_option maxRecDepth 100000 in
theorem c_J3_checkIndex_8e157 (l : Launch) (z0 : Nat) (D : va_G) (t : Nat → ClassId) (a1 : Int32) (a2 : Int32) (res : Int32) (h : f_J3_checkIndex_8e157 a1 a2 = some res) : Met l yJ3_checkIndex_8e157 (ws_ yJ3_checkIndex_8e157 cJ3_checkIndex_8e157 3 (some .int)) rm_J3_checkIndex_8e157 (PR z0 D t [.int a1, .int a2, .null] []) (QR (some (.int res))) 0 0 FN := by
  refine Met.ofW (cc := cJ3_checkIndex_8e157) (maxL := 3) (ret := (some .int)) (by decide) rfl ?_
  intro p e s m args below meth c s₁ Bo hml hv
  obtain ⟨rfl, hC, hP⟩ := hv
  have hx := Bo.exec
  have hb := Bo.bytes
  have hr := Bo.returns
  have hts : ∀ w ∈ LA, w.before _ s = true := fun w hw => atoms_spec (ws := ws_ yJ3_checkIndex_8e157 cJ3_checkIndex_8e157 3 (some .int)) Bo.pre w (List.mem_cons_of_mem _ hw)
  have hown : s.vm.findClass RJ3 = some m.cls := findClass_of_methodNamed Bo.named
  have hlocks := Bo.notSynchronized
  have hK := hC.1
  have hl := lv_entry ([.int a1, .int a2, .null]) (n := 3) (Nat.le_of_ble_eq_true rfl)
  rw [lg_entry_eq]
  generalize (lg_sl ([.int a1, .int a2, .null]) ++ List.replicate (3 - (lg_sl ([.int a1, .int a2, .null])).length) Slot.unset).toArray = ls at hl ⊢
  have hl : lv_has ls 3 [(0, .int a1), (1, .int a2), (2, .null)] := hl
  unfold f_J3_checkIndex_8e157 at h
  refine lv_iload_n hx hb dJ3_checkIndex_8e157_0 rfl (lv_at hl 0 rfl) ?_
  refine lv_if_lt (tgt := 9) hx hb dJ3_checkIndex_8e157_1 (by decide) (fun hc => ?_) (fun hc => ?_)
  · have h := iteT hc h
    cases h
  · have h := iteF hc h
    refine lv_iload_n hx hb dJ3_checkIndex_8e157_4 rfl (lv_at hl 0 rfl) ?_
    refine lv_iload_n hx hb dJ3_checkIndex_8e157_5 rfl (lv_at hl 1 rfl) ?_
    refine lv_icmp_lt (tgt := 16) hx hb dJ3_checkIndex_8e157_6 (by decide) (fun hc => ?_) (fun hc => ?_)
    · have h := iteT hc h
      refine lv_iload_n hx hb dJ3_checkIndex_8e157_16 rfl (lv_at hl 0 rfl) ?_
      obtain rfl := Option.some.inj h
      exact W.iret hx hb hr (fun t ht hW => ⟨rfl, ht⟩) (fun q hq => absurd hq List.not_mem_nil) dJ3_checkIndex_8e157_17
    · have h := iteF hc h
      cases h

abbrev rm_J15_checkIndex_7cf53 : Room := { frames := 2, cells := 0, slots := 0, locals := 62 }
theorem ok_J15_checkIndex_7cf53 : okY yJ15_checkIndex_7cf53 2 := ⟨by decide +kernel, by decide +kernel, by decide +kernel⟩
set_option maxHeartbeats 4000000 in
set_option maxRecDepth 100000 in
theorem c_J15_checkIndex_7cf53 (l : Launch) (z0 : Nat) (D : va_G) (t : Nat → ClassId) (a1 : Int32) (a2 : Int32) (res : Int32) (h : f_J15_checkIndex_7cf53 a1 a2 = some res) : Met l yJ15_checkIndex_7cf53 (ws_ yJ15_checkIndex_7cf53 cJ15_checkIndex_7cf53 2 (some .int)) rm_J15_checkIndex_7cf53 (PR z0 D t [.int a1, .int a2] []) (QR (some (.int res))) 0 0 FN := by
  refine Met.ofW (cc := cJ15_checkIndex_7cf53) (maxL := 2) (ret := (some .int)) (by decide) rfl ?_
  intro p e s m args below meth c s₁ Bo hml hv
  obtain ⟨rfl, hC, hP⟩ := hv
  have hx := Bo.exec
  have hb := Bo.bytes
  have hr := Bo.returns
  have hts : ∀ w ∈ LA, w.before _ s = true := fun w hw => atoms_spec (ws := ws_ yJ15_checkIndex_7cf53 cJ15_checkIndex_7cf53 2 (some .int)) Bo.pre w (List.mem_cons_of_mem _ hw)
  have hown : s.vm.findClass RJ15 = some m.cls := findClass_of_methodNamed Bo.named
  have hlocks := Bo.notSynchronized
  have hK := hC.1
  have hl := lv_entry ([.int a1, .int a2]) (n := 2) (Nat.le_of_ble_eq_true rfl)
  rw [lg_entry_eq]
  generalize (lg_sl ([.int a1, .int a2]) ++ List.replicate (2 - (lg_sl ([.int a1, .int a2])).length) Slot.unset).toArray = ls at hl ⊢
  have hl : lv_has ls 2 [(0, .int a1), (1, .int a2)] := hl
  unfold f_J15_checkIndex_7cf53 at h
  refine lv_iload_n hx hb dJ15_checkIndex_7cf53_0 rfl (lv_at hl 0 rfl) ?_
  refine lv_iload_n hx hb dJ15_checkIndex_7cf53_1 rfl (lv_at hl 1 rfl) ?_
  refine lv_null hx hb dJ15_checkIndex_7cf53_2 ?_
  obtain ⟨r1, er1, h⟩ := obind h
  refine call_R (va_runS (As := [.int a1, .int a2, .null]) (rest := []) ⟨hx, hb, hml, hown, hts⟩ (c_J3_checkIndex_8e157 l z0 D t a1 a2 _ er1) (kS hts qw673 qw674 qw15 qw675 ok_J3_checkIndex_8e157 ⟨Nat.le_of_ble_eq_true rfl, Nat.le_of_ble_eq_true rfl⟩) ⟨PR.blind, fun U hU hW => ⟨rfl, by rw [hU]; exact hC.warm hW, by rw [hU]; exact va_P_nil⟩⟩ rfl rfl hl.1 rfl (lv_room (Nat.le_of_ble_eq_true rfl)) dJ15_checkIndex_7cf53_3 ⟨Nat.le_of_ble_eq_true rfl, Nat.le_of_ble_eq_true rfl⟩) ?_
  obtain rfl := Option.some.inj h
  exact W.iret hx hb hr (fun t ht hW => ⟨rfl, ht⟩) (fun q hq => absurd hq List.not_mem_nil) dJ15_checkIndex_7cf53_6

abbrev rm_X4_append : Room := { frames := 6, cells := 0, slots := 0, locals := 120 }
theorem ok_X4_append : okY yX4_append 1 := ⟨by decide +kernel, by decide +kernel, by decide +kernel⟩
set_option maxHeartbeats 4000000 in
set_option maxRecDepth 100000 in
theorem c_X4_append (l : Launch) (z0 : Nat) (D : va_G) (t : Nat → ClassId) (x0 : Nat) (s0 : Nat) (s1 : Nat) (e0 : Nat) (E : Nat → Nat) (A : Nat → Nat) (B : Nat → Nat) (G : Nat → Nat) (T : va_W) (μ : XS) (a1 : Int32) (res : Int32 × (Int32) × (Nat → Int32)) (sz : Nat) (h : f_X4_append μ a1 = some (.inl res)) : Met l yX4_append (ws_ yX4_append cX4_append 2 (some .int)) rm_X4_append (PM z0 D t [.ref (x0), .int a1] (XW x0 s0 s1 e0 E A B G T t μ) (XL x0 s0 s1 e0 E A B G T μ) sz) (QM (some (.int res.1)) D (XW x0 s0 s1 e0 E A B G T t (x_codes' (x_length' μ res.2.1) res.2.2)) (XL x0 s0 s1 e0 E A B G T μ) sz) 0 0 (OA (XL x0 s0 s1 e0 E A B G T μ) sz) := by
  refine Met.ofW (cc := cX4_append) (maxL := 2) (ret := (some .int)) (by decide) rfl ?_
  intro p e s m args below meth c s₁ Bo hml hv
  obtain ⟨rfl, hC, hsz, hP, hD, hZ⟩ := hv
  have hx := Bo.exec
  have hb := Bo.bytes
  have hr := Bo.returns
  have hts : ∀ w ∈ LA, w.before _ s = true := fun w hw => atoms_spec (ws := ws_ yX4_append cX4_append 2 (some .int)) Bo.pre w (List.mem_cons_of_mem _ hw)
  have hown : s.vm.findClass RX4 = some m.cls := findClass_of_methodNamed Bo.named
  have hlocks := Bo.notSynchronized
  have hK := hC.1
  subst hsz
  have hl := lv_entry ([.ref (x0), .int a1]) (n := 2) (Nat.le_of_ble_eq_true rfl)
  rw [lg_entry_eq]
  generalize (lg_sl ([.ref (x0), .int a1]) ++ List.replicate (2 - (lg_sl ([.ref (x0), .int a1])).length) Slot.unset).toArray = ls at hl ⊢
  have hl : lv_has ls 2 [(0, .ref (x0)), (1, .int a1)] := hl
  suffices K9 : ∀ (H : Heap) (locs : List Loc), va_P D vwCl (XW x0 s0 s1 e0 E A B G T t μ) H → va_S (OA (XL x0 s0 s1 e0 E A B G T μ) s.heap.size) s.heap H locs → W p l e (headSpec (ws_ yX4_append cX4_append 2 (some .int)) rm_X4_append).room s m ([.ref (x0), .int a1] : List Value).toArray below meth c H locs 0 0 (MQ below (QM (some (.int res.1)) D (XW x0 s0 s1 e0 E A B G T t (x_codes' (x_length' μ res.2.1) res.2.2)) (XL x0 s0 s1 e0 E A B G T μ) s.heap.size) ([.ref (x0), .int a1] : List Value).toArray s 0 0 (OA (XL x0 s0 s1 e0 E A B G T μ) s.heap.size)) (F0 m 0 ls []) from K9 s.heap [] hP va_S.rf
  intro H locs hP hS
  have hSz : s.heap.size ≤ H.size := hS.1
  unfold f_X4_append at h
  refine lv_iload_n hx hb dX4_append_0 rfl (lv_at hl 1 rfl) ?_
  refine lv_bipush (v := (33)) hx hb dX4_append_1 (by decide) ?_
  refine lv_icmp_lt (tgt := 12) hx hb dX4_append_3 (by decide) (fun hc => ?_) (fun hc => ?_)
  · have h := iteT hc h
    exact absurd (Option.some.inj h) (fun z => by cases z)
  · have h := iteF hc h
    refine lv_iload_n hx hb dX4_append_6 rfl (lv_at hl 1 rfl) ?_
    refine lv_bipush (v := (126)) hx hb dX4_append_7 (by decide) ?_
    refine lv_icmp_le (tgt := 22) hx hb dX4_append_9 (by decide) (fun hc => ?_) (fun hc => ?_)
    · have h := iteT hc h
      refine lv_aload_n hx hb dX4_append_22 rfl (lv_at hl 0 rfl) ?_
      refine va_get hx hb hts inX4 hown hK hP 0 rfl rfl 2 (by decide) (hts _ qw159) (fun _ h9 => h9) rfl dX4_append_23 ?_
      obtain ⟨r1, er1, h⟩ := obind h
      refine call_R (va_runV (As := []) (rest := []) ⟨hx, hb, hml, hown, hts⟩ (c_X0_isFull l z0 D t E ((x_length μ), (x_codes μ)) _ er1) (kV hts qw869 qw870 qw871 qw5 qw872 ok_X0_isFull ⟨Nat.le_of_ble_eq_true rfl, Nat.le_of_ble_eq_true rfl⟩) ⟨PR.blind, va_recv hK (sub_X_B (μ := μ) hP) (ci := 1) (q0 := 0) rfl rfl, fun U hU hW => ⟨rfl, by rw [hU]; exact (hC.at hS hZ).warm hW, by rw [hU]; exact (sub_X_B (μ := μ) hP)⟩⟩ rfl rfl hl.1 rfl (lv_room (Nat.le_of_ble_eq_true rfl)) dX4_append_26 ⟨Nat.le_of_ble_eq_true rfl, Nat.le_of_ble_eq_true rfl⟩) ?_
      refine lv_if_eq (tgt := 42) hx hb dX4_append_29 (by decide) (fun hc => ?_) (fun hc => ?_)
      · have h := iteT hc h
        refine lv_aload_n hx hb dX4_append_42 rfl (lv_at hl 0 rfl) ?_
        refine va_get hx hb hts inX4 hown hK hP 0 rfl rfl 2 (by decide) (hts _ qw159) (fun _ h9 => h9) rfl dX4_append_43 ?_
        refine lv_iload_n hx hb dX4_append_46 rfl (lv_at hl 1 rfl) ?_
        obtain ⟨r2, er2, h⟩ := obind h
        refine call_M (va_runV (As := [.int a1]) (rest := []) ⟨hx, hb, hml, hown, hts⟩ (c_X0_add l z0 D t E ((x_length μ), (x_codes μ)) a1 _ H.size er2) (kV hts qw874 qw875 qw876 qw5 qw877 ok_X0_add ⟨Nat.le_of_ble_eq_true rfl, Nat.le_of_ble_eq_true rfl⟩) ⟨PM.blind, va_recv hK (sub_X_B (μ := μ) hP) (ci := 1) (q0 := 0) rfl rfl, fun U hU hW => ⟨rfl, by rw [hU]; exact (hC.at hS hZ).warm hW, by rw [hU], by rw [hU]; exact (sub_X_B (μ := μ) hP), ⟨(subD_X_B (μ := μ) hD).1, fun _ _ h9 => Or.inl (in_map (L := (BL E)) rfl h9)⟩, fun q hq => hZ q (OA.ofD (subD_X_B (μ := μ) hD) rfl hSz q hq)⟩⟩ rfl rfl hl.1 rfl (lv_room (Nat.le_of_ble_eq_true rfl)) dX4_append_47 ⟨Nat.le_of_ble_eq_true rfl, Nat.le_of_ble_eq_true rfl⟩) hS (OA.ofD (subD_X_B (μ := μ) hD) rfl hSz) (fun H locs hP1 hD1 hS _ hk1 => ?_)
        obtain ⟨hP, hD⟩ := back_X_B (μ := μ) hP hD hk1 hP1
        have hP : va_P D vwCl (XW x0 s0 s1 e0 E A B G T t (x_codes' (x_length' μ r2.1) r2.2)) H := hP
        have hD : va_D (OA (XL x0 s0 s1 e0 E A B G T μ) s.heap.size) (XW x0 s0 s1 e0 E A B G T t (x_codes' (x_length' μ r2.1) r2.2)) := hD
        have hSz : s.heap.size ≤ H.size := hS.1
        refine lv_aload_n hx hb dX4_append_50 rfl (lv_at hl 0 rfl) ?_
        refine va_get hx hb hts inX4 hown hK hP 0 rfl rfl 2 (by decide) (hts _ qw159) (fun _ h9 => h9) rfl dX4_append_51 ?_
        refine va_get hx hb hts inX0 hown hK hP 2 rfl rfl 0 (by decide) (hts _ qw70) (fun _ h9 => h9) rfl dX4_append_54 ?_
        obtain rfl := Sum.inl.inj (Option.some.inj h)
        exact W.iret hx hb hr (fun t ht hW => ⟨rfl, by rw [ht]; exact hP, hD, hS.F ht⟩) hS.2.2 dX4_append_57
      · have h := iteF hc h
        exact absurd (Option.some.inj h) (fun z => by cases z)
    · have h := iteF hc h
      exact absurd (Option.some.inj h) (fun z => by cases z)

abbrev rx_X4_append : Room := { frames := 6, cells := 1, slots := 6, locals := 120 }
set_option maxHeartbeats 4000000 in
set_option maxRecDepth 100000 in
theorem x_X4_append (l : Launch) (hl9 : l.stackTraces = false) (z0 : Nat) (D : va_G) (t : Nat → ClassId) (x0 : Nat) (s0 : Nat) (s1 : Nat) (e0 : Nat) (E : Nat → Nat) (A : Nat → Nat) (B : Nat → Nat) (G : Nat → Nat) (T : va_W) (μ : XS) (a1 : Int32) (xE : String) (sz : Nat) (h : f_X4_append μ a1 = some (.inr xE)) : vx_Met l yX4_append (ws_ yX4_append cX4_append 2 (some .int)) rx_X4_append (PM z0 D t [.ref (x0), .int a1] (XW x0 s0 s1 e0 E A B G T t μ) (XL x0 s0 s1 e0 E A B G T μ) sz) (fun _ _ _ _ => False) (XM xE D (XW x0 s0 s1 e0 E A B G T t μ) (XL x0 s0 s1 e0 E A B G T μ) sz) 1 6 (OA (XL x0 s0 s1 e0 E A B G T μ) sz) := by
  refine vx_ofW (cc := cX4_append) (maxL := 2) (ret := (some .int)) (by decide) rfl ?_
  intro p e s m args below meth c s₁ Bo hml hT hv
  obtain ⟨rfl, hC, hsz, hP, hD, hZ⟩ := hv
  have hx := Bo.exec
  have hb := Bo.bytes
  have hr := Bo.returns
  have hts : ∀ w ∈ LA, w.before _ s = true := fun w hw => atoms_spec (ws := ws_ yX4_append cX4_append 2 (some .int)) Bo.pre w (List.mem_cons_of_mem _ hw)
  have hown : s.vm.findClass RX4 = some m.cls := findClass_of_methodNamed Bo.named
  have hlocks := Bo.notSynchronized
  have hK := hC.1
  subst hsz
  have hl := lv_entry ([.ref (x0), .int a1]) (n := 2) (Nat.le_of_ble_eq_true rfl)
  rw [lg_entry_eq]
  generalize (lg_sl ([.ref (x0), .int a1]) ++ List.replicate (2 - (lg_sl ([.ref (x0), .int a1])).length) Slot.unset).toArray = ls at hl ⊢
  have hl : lv_has ls 2 [(0, .ref (x0)), (1, .int a1)] := hl
  suffices K9 : ∀ (H : Heap) (locs : List Loc), va_P D vwCl (XW x0 s0 s1 e0 E A B G T t μ) H → va_S (OA (XL x0 s0 s1 e0 E A B G T μ) s.heap.size) s.heap H locs → W p l e (headSpec (ws_ yX4_append cX4_append 2 (some .int)) rx_X4_append).room s m ([.ref (x0), .int a1] : List Value).toArray below meth c H locs 0 0 (vx_MQ below (fun _ _ _ _ => False) (XM xE D (XW x0 s0 s1 e0 E A B G T t μ) (XL x0 s0 s1 e0 E A B G T μ) s.heap.size) ([.ref (x0), .int a1] : List Value).toArray s 1 6 (OA (XL x0 s0 s1 e0 E A B G T μ) s.heap.size)) (F0 m 0 ls []) from K9 s.heap [] hP va_S.rf
  intro H locs hP hS
  have hSz : s.heap.size ≤ H.size := hS.1
  unfold f_X4_append at h
  refine lv_iload_n hx hb dX4_append_0 rfl (lv_at hl 1 rfl) ?_
  refine lv_bipush (v := (33)) hx hb dX4_append_1 (by decide) ?_
  refine lv_icmp_lt (tgt := 12) hx hb dX4_append_3 (by decide) (fun hc => ?_) (fun hc => ?_)
  · have h := iteT hc h
    obtain rfl := Sum.inr.inj (Option.some.inj h)
    obtain ⟨sa, hsa⟩ := hC.2.2.2.2.2.1 ("BentGardens", 171, "code is not 33 to 126") (by decide +kernel)
    refine vx_throwS hx hb hl9 hown (cls := "java/lang/IllegalArgumentException") (names := ["java/lang/RuntimeException", "java/lang/Exception"]) (by decide) (by decide) (hts _ qw471) (hts _ qw13) hsa (at_words hts hC.2.1 at_IllegalArgumentException) ato_IllegalArgumentException (hC.2.2.2.2.2.2.2.1.narrow hZ) (hC.2.2.2.2.2.2.2.2.1.narrow hZ) hS (hl.1.trans hml.symm) dX4_append_12 dX4_append_15 dX4_append_16 dX4_append_18 dX4_append_21 (fun x9 hx9 => (hT x9 hx9).elim) (Nat.le_of_ble_eq_true rfl) (Nat.le_of_ble_eq_true rfl) (Nat.le_of_ble_eq_true rfl) (Nat.le_of_ble_eq_true rfl) hlocks (fun t9 _ h8 h9 => XM.mk hP hD hS h8 h9) hS.2.2 (Nat.le_of_ble_eq_true rfl) (Nat.le_of_ble_eq_true rfl)
  · have h := iteF hc h
    refine lv_iload_n hx hb dX4_append_6 rfl (lv_at hl 1 rfl) ?_
    refine lv_bipush (v := (126)) hx hb dX4_append_7 (by decide) ?_
    refine lv_icmp_le (tgt := 22) hx hb dX4_append_9 (by decide) (fun hc => ?_) (fun hc => ?_)
    · have h := iteT hc h
      refine lv_aload_n hx hb dX4_append_22 rfl (lv_at hl 0 rfl) ?_
      refine va_get hx hb hts inX4 hown hK hP 0 rfl rfl 2 (by decide) (hts _ qw159) (fun _ h9 => h9) rfl dX4_append_23 ?_
      obtain ⟨r1, er1, h⟩ := obind h
      refine call_R (va_runV (As := []) (rest := []) ⟨hx, hb, hml, hown, hts⟩ (c_X0_isFull l z0 D t E ((x_length μ), (x_codes μ)) _ er1) (kV hts qw869 qw870 qw871 qw5 qw872 ok_X0_isFull ⟨Nat.le_of_ble_eq_true rfl, Nat.le_of_ble_eq_true rfl⟩) ⟨PR.blind, va_recv hK (sub_X_B (μ := μ) hP) (ci := 1) (q0 := 0) rfl rfl, fun U hU hW => ⟨rfl, by rw [hU]; exact (hC.at hS hZ).warm hW, by rw [hU]; exact (sub_X_B (μ := μ) hP)⟩⟩ rfl rfl hl.1 rfl (lv_room (Nat.le_of_ble_eq_true rfl)) dX4_append_26 ⟨Nat.le_of_ble_eq_true rfl, Nat.le_of_ble_eq_true rfl⟩) ?_
      refine lv_if_eq (tgt := 42) hx hb dX4_append_29 (by decide) (fun hc => ?_) (fun hc => ?_)
      · have h := iteT hc h
        refine lv_aload_n hx hb dX4_append_42 rfl (lv_at hl 0 rfl) ?_
        refine va_get hx hb hts inX4 hown hK hP 0 rfl rfl 2 (by decide) (hts _ qw159) (fun _ h9 => h9) rfl dX4_append_43 ?_
        refine lv_iload_n hx hb dX4_append_46 rfl (lv_at hl 1 rfl) ?_
        obtain ⟨r2, er2, h⟩ := obind h
        refine call_M (va_runV (As := [.int a1]) (rest := []) ⟨hx, hb, hml, hown, hts⟩ (c_X0_add l z0 D t E ((x_length μ), (x_codes μ)) a1 _ H.size er2) (kV hts qw874 qw875 qw876 qw5 qw877 ok_X0_add ⟨Nat.le_of_ble_eq_true rfl, Nat.le_of_ble_eq_true rfl⟩) ⟨PM.blind, va_recv hK (sub_X_B (μ := μ) hP) (ci := 1) (q0 := 0) rfl rfl, fun U hU hW => ⟨rfl, by rw [hU]; exact (hC.at hS hZ).warm hW, by rw [hU], by rw [hU]; exact (sub_X_B (μ := μ) hP), ⟨(subD_X_B (μ := μ) hD).1, fun _ _ h9 => Or.inl (in_map (L := (BL E)) rfl h9)⟩, fun q hq => hZ q (OA.ofD (subD_X_B (μ := μ) hD) rfl hSz q hq)⟩⟩ rfl rfl hl.1 rfl (lv_room (Nat.le_of_ble_eq_true rfl)) dX4_append_47 ⟨Nat.le_of_ble_eq_true rfl, Nat.le_of_ble_eq_true rfl⟩) hS (OA.ofD (subD_X_B (μ := μ) hD) rfl hSz) (fun H locs hP1 hD1 hS _ hk1 => ?_)
        obtain ⟨hP, hD⟩ := back_X_B (μ := μ) hP hD hk1 hP1
        have hP : va_P D vwCl (XW x0 s0 s1 e0 E A B G T t (x_codes' (x_length' μ r2.1) r2.2)) H := hP
        have hD : va_D (OA (XL x0 s0 s1 e0 E A B G T μ) s.heap.size) (XW x0 s0 s1 e0 E A B G T t (x_codes' (x_length' μ r2.1) r2.2)) := hD
        have hSz : s.heap.size ≤ H.size := hS.1
        refine lv_aload_n hx hb dX4_append_50 rfl (lv_at hl 0 rfl) ?_
        refine va_get hx hb hts inX4 hown hK hP 0 rfl rfl 2 (by decide) (hts _ qw159) (fun _ h9 => h9) rfl dX4_append_51 ?_
        refine va_get hx hb hts inX0 hown hK hP 2 rfl rfl 0 (by decide) (hts _ qw70) (fun _ h9 => h9) rfl dX4_append_54 ?_
        exact absurd (Option.some.inj h) (fun z => by cases z)
      · have h := iteF hc h
        obtain rfl := Sum.inr.inj (Option.some.inj h)
        obtain ⟨sa, hsa⟩ := hC.2.2.2.2.2.1 ("BentGardens", 176, "the buffer is full") (by decide +kernel)
        refine vx_throwS hx hb hl9 hown (cls := "java/lang/IllegalStateException") (names := ["java/lang/RuntimeException", "java/lang/Exception"]) (by decide) (by decide) (hts _ qw755) (hts _ qw21) hsa (at_words hts hC.2.1 at_IllegalStateException) ato_IllegalStateException (hC.2.2.2.2.2.2.2.1.narrow hZ) (hC.2.2.2.2.2.2.2.2.1.narrow hZ) hS (hl.1.trans hml.symm) dX4_append_32 dX4_append_35 dX4_append_36 dX4_append_38 dX4_append_41 (fun x9 hx9 => (hT x9 hx9).elim) (Nat.le_of_ble_eq_true rfl) (Nat.le_of_ble_eq_true rfl) (Nat.le_of_ble_eq_true rfl) (Nat.le_of_ble_eq_true rfl) hlocks (fun t9 _ h8 h9 => XM.mk hP hD hS h8 h9) hS.2.2 (Nat.le_of_ble_eq_true rfl) (Nat.le_of_ble_eq_true rfl)
    · have h := iteF hc h
      obtain rfl := Sum.inr.inj (Option.some.inj h)
      obtain ⟨sa, hsa⟩ := hC.2.2.2.2.2.1 ("BentGardens", 171, "code is not 33 to 126") (by decide +kernel)
      refine vx_throwS hx hb hl9 hown (cls := "java/lang/IllegalArgumentException") (names := ["java/lang/RuntimeException", "java/lang/Exception"]) (by decide) (by decide) (hts _ qw471) (hts _ qw13) hsa (at_words hts hC.2.1 at_IllegalArgumentException) ato_IllegalArgumentException (hC.2.2.2.2.2.2.2.1.narrow hZ) (hC.2.2.2.2.2.2.2.2.1.narrow hZ) hS (hl.1.trans hml.symm) dX4_append_12 dX4_append_15 dX4_append_16 dX4_append_18 dX4_append_21 (fun x9 hx9 => (hT x9 hx9).elim) (Nat.le_of_ble_eq_true rfl) (Nat.le_of_ble_eq_true rfl) (Nat.le_of_ble_eq_true rfl) (Nat.le_of_ble_eq_true rfl) hlocks (fun t9 _ h8 h9 => XM.mk hP hD hS h8 h9) hS.2.2 (Nat.le_of_ble_eq_true rfl) (Nat.le_of_ble_eq_true rfl)

abbrev rm_X4_requireSlot : Room := { frames := 6, cells := 0, slots := 0, locals := 120 }
theorem ok_X4_requireSlot : okY yX4_requireSlot 1 := ⟨by decide +kernel, by decide +kernel, by decide +kernel⟩
set_option maxHeartbeats 4000000 in
set_option maxRecDepth 100000 in
theorem c_X4_requireSlot (l : Launch) (z0 : Nat) (D : va_G) (t : Nat → ClassId) (x0 : Nat) (s0 : Nat) (s1 : Nat) (e0 : Nat) (E : Nat → Nat) (A : Nat → Nat) (B : Nat → Nat) (G : Nat → Nat) (T : va_W) (μ : XS) (a1 : Int32) (res : Unit) (h : f_X4_requireSlot μ a1 = some (.inl res)) : Met l yX4_requireSlot (ws_ yX4_requireSlot cX4_requireSlot 2 none) rm_X4_requireSlot (PR z0 D t [.ref (x0), .int a1] (XW x0 s0 s1 e0 E A B G T t μ)) (QR none) 0 0 FN := by
  refine Met.ofW (cc := cX4_requireSlot) (maxL := 2) (ret := none) (by decide) rfl ?_
  intro p e s m args below meth c s₁ Bo hml hv
  obtain ⟨rfl, hC, hP⟩ := hv
  have hx := Bo.exec
  have hb := Bo.bytes
  have hr := Bo.returns
  have hts : ∀ w ∈ LA, w.before _ s = true := fun w hw => atoms_spec (ws := ws_ yX4_requireSlot cX4_requireSlot 2 none) Bo.pre w (List.mem_cons_of_mem _ hw)
  have hown : s.vm.findClass RX4 = some m.cls := findClass_of_methodNamed Bo.named
  have hlocks := Bo.notSynchronized
  have hK := hC.1
  have hl := lv_entry ([.ref (x0), .int a1]) (n := 2) (Nat.le_of_ble_eq_true rfl)
  rw [lg_entry_eq]
  generalize (lg_sl ([.ref (x0), .int a1]) ++ List.replicate (2 - (lg_sl ([.ref (x0), .int a1])).length) Slot.unset).toArray = ls at hl ⊢
  have hl : lv_has ls 2 [(0, .ref (x0)), (1, .int a1)] := hl
  unfold f_X4_requireSlot at h
  refine lv_iload_n hx hb dX4_requireSlot_0 rfl (lv_at hl 1 rfl) ?_
  refine lv_if_lt (tgt := 13) hx hb dX4_requireSlot_1 (by decide) (fun hc => ?_) (fun hc => ?_)
  · have h := iteT hc h
    exact absurd (Option.some.inj h) (fun z => by cases z)
  · have h := iteF hc h
    refine lv_iload_n hx hb dX4_requireSlot_4 rfl (lv_at hl 1 rfl) ?_
    refine lv_aload_n hx hb dX4_requireSlot_5 rfl (lv_at hl 0 rfl) ?_
    refine va_get hx hb hts inX4 hown hK hP 0 rfl rfl 1 (by decide) (hts _ qw158) (fun _ h9 => h9) rfl dX4_requireSlot_6 ?_
    refine va_alen hx hb hK hP 1 3 rfl rfl (v := 2) rfl dX4_requireSlot_9 ?_
    refine lv_icmp_lt (tgt := 24) hx hb dX4_requireSlot_10 (by decide) (fun hc => ?_) (fun hc => ?_)
    · have h := iteT hc h
      obtain rfl := Sum.inl.inj (Option.some.inj h)
      exact W.vret hx hb hr (fun t ht hW => ⟨rfl, ht⟩) (fun q hq => absurd hq List.not_mem_nil) dX4_requireSlot_24
    · have h := iteF hc h
      exact absurd (Option.some.inj h) (fun z => by cases z)

abbrev rx_X4_requireSlot : Room := { frames := 6, cells := 1, slots := 6, locals := 120 }
set_option maxHeartbeats 4000000 in
set_option maxRecDepth 100000 in
theorem x_X4_requireSlot (l : Launch) (hl9 : l.stackTraces = false) (z0 : Nat) (D : va_G) (t : Nat → ClassId) (x0 : Nat) (s0 : Nat) (s1 : Nat) (e0 : Nat) (E : Nat → Nat) (A : Nat → Nat) (B : Nat → Nat) (G : Nat → Nat) (T : va_W) (μ : XS) (a1 : Int32) (xE : String) (sz : Nat) (h : f_X4_requireSlot μ a1 = some (.inr xE)) : vx_Met l yX4_requireSlot (ws_ yX4_requireSlot cX4_requireSlot 2 none) rx_X4_requireSlot (PM z0 D t [.ref (x0), .int a1] (XW x0 s0 s1 e0 E A B G T t μ) (XL x0 s0 s1 e0 E A B G T μ) sz) (fun _ _ _ _ => False) (XM xE D (XW x0 s0 s1 e0 E A B G T t μ) (XL x0 s0 s1 e0 E A B G T μ) sz) 1 6 (OA (XL x0 s0 s1 e0 E A B G T μ) sz) := by
  refine vx_ofW (cc := cX4_requireSlot) (maxL := 2) (ret := none) (by decide) rfl ?_
  intro p e s m args below meth c s₁ Bo hml hT hv
  obtain ⟨rfl, hC, hsz, hP, hD, hZ⟩ := hv
  have hx := Bo.exec
  have hb := Bo.bytes
  have hr := Bo.returns
  have hts : ∀ w ∈ LA, w.before _ s = true := fun w hw => atoms_spec (ws := ws_ yX4_requireSlot cX4_requireSlot 2 none) Bo.pre w (List.mem_cons_of_mem _ hw)
  have hown : s.vm.findClass RX4 = some m.cls := findClass_of_methodNamed Bo.named
  have hlocks := Bo.notSynchronized
  have hK := hC.1
  subst hsz
  have hl := lv_entry ([.ref (x0), .int a1]) (n := 2) (Nat.le_of_ble_eq_true rfl)
  rw [lg_entry_eq]
  generalize (lg_sl ([.ref (x0), .int a1]) ++ List.replicate (2 - (lg_sl ([.ref (x0), .int a1])).length) Slot.unset).toArray = ls at hl ⊢
  have hl : lv_has ls 2 [(0, .ref (x0)), (1, .int a1)] := hl
  suffices K9 : ∀ (H : Heap) (locs : List Loc), va_P D vwCl (XW x0 s0 s1 e0 E A B G T t μ) H → va_S (OA (XL x0 s0 s1 e0 E A B G T μ) s.heap.size) s.heap H locs → W p l e (headSpec (ws_ yX4_requireSlot cX4_requireSlot 2 none) rx_X4_requireSlot).room s m ([.ref (x0), .int a1] : List Value).toArray below meth c H locs 0 0 (vx_MQ below (fun _ _ _ _ => False) (XM xE D (XW x0 s0 s1 e0 E A B G T t μ) (XL x0 s0 s1 e0 E A B G T μ) s.heap.size) ([.ref (x0), .int a1] : List Value).toArray s 1 6 (OA (XL x0 s0 s1 e0 E A B G T μ) s.heap.size)) (F0 m 0 ls []) from K9 s.heap [] hP va_S.rf
  intro H locs hP hS
  have hSz : s.heap.size ≤ H.size := hS.1
  unfold f_X4_requireSlot at h
  refine lv_iload_n hx hb dX4_requireSlot_0 rfl (lv_at hl 1 rfl) ?_
  refine lv_if_lt (tgt := 13) hx hb dX4_requireSlot_1 (by decide) (fun hc => ?_) (fun hc => ?_)
  · have h := iteT hc h
    obtain rfl := Sum.inr.inj (Option.some.inj h)
    obtain ⟨sa, hsa⟩ := hC.2.2.2.2.2.1 ("BentGardens", 358, "slot is not 0 or 1") (by decide +kernel)
    refine vx_throwSW hx hb hl9 hown (cls := "java/lang/IllegalArgumentException") (names := ["java/lang/RuntimeException", "java/lang/Exception"]) (by decide) (by decide) (hts _ qw471) (hts _ qw13) hsa (at_words hts hC.2.1 at_IllegalArgumentException) ato_IllegalArgumentException (hC.2.2.2.2.2.2.2.1.narrow hZ) (hC.2.2.2.2.2.2.2.2.1.narrow hZ) hS (hl.1.trans hml.symm) dX4_requireSlot_13 dX4_requireSlot_16 dX4_requireSlot_17 dX4_requireSlot_20 dX4_requireSlot_23 (fun x9 hx9 => (hT x9 hx9).elim) (Nat.le_of_ble_eq_true rfl) (Nat.le_of_ble_eq_true rfl) (Nat.le_of_ble_eq_true rfl) (Nat.le_of_ble_eq_true rfl) hlocks (fun t9 _ h8 h9 => XM.mk hP hD hS h8 h9) hS.2.2 (Nat.le_of_ble_eq_true rfl) (Nat.le_of_ble_eq_true rfl)
  · have h := iteF hc h
    refine lv_iload_n hx hb dX4_requireSlot_4 rfl (lv_at hl 1 rfl) ?_
    refine lv_aload_n hx hb dX4_requireSlot_5 rfl (lv_at hl 0 rfl) ?_
    refine va_get hx hb hts inX4 hown hK hP 0 rfl rfl 1 (by decide) (hts _ qw158) (fun _ h9 => h9) rfl dX4_requireSlot_6 ?_
    refine va_alen hx hb hK hP 1 3 rfl rfl (v := 2) rfl dX4_requireSlot_9 ?_
    refine lv_icmp_lt (tgt := 24) hx hb dX4_requireSlot_10 (by decide) (fun hc => ?_) (fun hc => ?_)
    · have h := iteT hc h
      exact absurd (Option.some.inj h) (fun z => by cases z)
    · have h := iteF hc h
      obtain rfl := Sum.inr.inj (Option.some.inj h)
      obtain ⟨sa, hsa⟩ := hC.2.2.2.2.2.1 ("BentGardens", 358, "slot is not 0 or 1") (by decide +kernel)
      refine vx_throwSW hx hb hl9 hown (cls := "java/lang/IllegalArgumentException") (names := ["java/lang/RuntimeException", "java/lang/Exception"]) (by decide) (by decide) (hts _ qw471) (hts _ qw13) hsa (at_words hts hC.2.1 at_IllegalArgumentException) ato_IllegalArgumentException (hC.2.2.2.2.2.2.2.1.narrow hZ) (hC.2.2.2.2.2.2.2.2.1.narrow hZ) hS (hl.1.trans hml.symm) dX4_requireSlot_13 dX4_requireSlot_16 dX4_requireSlot_17 dX4_requireSlot_20 dX4_requireSlot_23 (fun x9 hx9 => (hT x9 hx9).elim) (Nat.le_of_ble_eq_true rfl) (Nat.le_of_ble_eq_true rfl) (Nat.le_of_ble_eq_true rfl) (Nat.le_of_ble_eq_true rfl) hlocks (fun t9 _ h8 h9 => XM.mk hP hD hS h8 h9) hS.2.2 (Nat.le_of_ble_eq_true rfl) (Nat.le_of_ble_eq_true rfl)

abbrev rm_X4_whyNot : Room := { frames := 7, cells := 0, slots := 0, locals := 140 }
theorem ok_X4_whyNot : okY yX4_whyNot 3 := ⟨by decide +kernel, by decide +kernel, by decide +kernel⟩
set_option maxHeartbeats 4000000 in
set_option maxRecDepth 100000 in
theorem c_X4_whyNot (l : Launch) (z0 : Nat) (D : va_G) (t : Nat → ClassId) (x0 : Nat) (s0 : Nat) (s1 : Nat) (e0 : Nat) (E : Nat → Nat) (A : Nat → Nat) (B : Nat → Nat) (G : Nat → Nat) (T : va_W) (μ : XS) (a1 : Int32) (a2 : Int32) (a3 : Int32) (res : Int32) (h : f_X4_whyNot μ a1 a2 a3 = some (.inl res)) : Met l yX4_whyNot (ws_ yX4_whyNot cX4_whyNot 4 (some .int)) rm_X4_whyNot (PR z0 D t [.ref (x0), .int a1, .int a2, .int a3] (XW x0 s0 s1 e0 E A B G T t μ)) (QR (some (.int res))) 0 0 FN := by
  refine Met.ofW (cc := cX4_whyNot) (maxL := 4) (ret := (some .int)) (by decide) rfl ?_
  intro p e s m args below meth c s₁ Bo hml hv
  obtain ⟨rfl, hC, hP⟩ := hv
  have hx := Bo.exec
  have hb := Bo.bytes
  have hr := Bo.returns
  have hts : ∀ w ∈ LA, w.before _ s = true := fun w hw => atoms_spec (ws := ws_ yX4_whyNot cX4_whyNot 4 (some .int)) Bo.pre w (List.mem_cons_of_mem _ hw)
  have hown : s.vm.findClass RX4 = some m.cls := findClass_of_methodNamed Bo.named
  have hlocks := Bo.notSynchronized
  have hK := hC.1
  have hl := lv_entry ([.ref (x0), .int a1, .int a2, .int a3]) (n := 4) (Nat.le_of_ble_eq_true rfl)
  rw [lg_entry_eq]
  generalize (lg_sl ([.ref (x0), .int a1, .int a2, .int a3]) ++ List.replicate (4 - (lg_sl ([.ref (x0), .int a1, .int a2, .int a3])).length) Slot.unset).toArray = ls at hl ⊢
  have hl : lv_has ls 4 [(0, .ref (x0)), (1, .int a1), (2, .int a2), (3, .int a3)] := hl
  unfold f_X4_whyNot at h
  refine lv_iload_n hx hb dX4_whyNot_0 rfl (lv_at hl 3 rfl) ?_
  obtain ⟨r1o, er1, h⟩ := obind h
  rcases r1o with r1 | Er1
  · replace h := sumL h
    refine call_R (va_runS (As := [.int a3]) (rest := []) ⟨hx, hb, hml, hown, hts⟩ (c_X4_requireTurn l z0 D t a3 _ er1) (kS hts qw614 qw615 qw1 qw616 ok_X4_requireTurn ⟨Nat.le_of_ble_eq_true rfl, Nat.le_of_ble_eq_true rfl⟩) ⟨PR.blind, fun U hU hW => ⟨rfl, by rw [hU]; exact hC.warm hW, by rw [hU]; exact va_P_nil⟩⟩ rfl rfl hl.1 rfl (lv_room (Nat.le_of_ble_eq_true rfl)) dX4_whyNot_1 ⟨Nat.le_of_ble_eq_true rfl, Nat.le_of_ble_eq_true rfl⟩) ?_
    refine lv_aload_n hx hb dX4_whyNot_4 rfl (lv_at hl 0 rfl) ?_
    refine va_get hx hb hts inX4 hown hK hP 0 rfl rfl 4 (by decide) (hts _ qw161) (fun _ h9 => h9) rfl dX4_whyNot_5 ?_
    refine lv_iload_n hx hb dX4_whyNot_8 rfl (lv_at hl 1 rfl) ?_
    refine lv_iload_n hx hb dX4_whyNot_9 rfl (lv_at hl 2 rfl) ?_
    refine lv_iload_n hx hb dX4_whyNot_10 rfl (lv_at hl 3 rfl) ?_
    obtain ⟨r2, er2, h⟩ := obind h
    refine call_R (va_runV (As := [.int a1, .int a2, .int a3]) (rest := []) ⟨hx, hb, hml, hown, hts⟩ (c_X1_whyRefused l z0 D t G ((x_wide μ), (x_high μ), (x_pond μ), (x_walls μ), (x_paved μ), (x_tc μ), (x_flips μ), (x_refused μ), (x_names μ)) a1 a2 a3 _ er2) (kV hts qw618 qw359 qw360 qw8 qw361 ok_X1_whyRefused ⟨Nat.le_of_ble_eq_true rfl, Nat.le_of_ble_eq_true rfl⟩) ⟨PR.blind, va_recv hK (sub_X_G (μ := μ) hP) (ci := 2) (q0 := 0) rfl rfl, fun U hU hW => ⟨rfl, by rw [hU]; exact hC.warm hW, by rw [hU]; exact (sub_X_G (μ := μ) hP)⟩⟩ rfl rfl hl.1 rfl (lv_room (Nat.le_of_ble_eq_true rfl)) dX4_whyNot_11 ⟨Nat.le_of_ble_eq_true rfl, Nat.le_of_ble_eq_true rfl⟩) ?_
    obtain rfl := Sum.inl.inj (Option.some.inj h)
    exact W.iret hx hb hr (fun t ht hW => ⟨rfl, ht⟩) (fun q hq => absurd hq List.not_mem_nil) dX4_whyNot_14
  · replace h := sumR h
    exact absurd (Option.some.inj h) (fun z => by cases z)

abbrev rx_X4_whyNot : Room := { frames := 7, cells := 1, slots := 6, locals := 140 }
set_option maxHeartbeats 4000000 in
set_option maxRecDepth 100000 in
theorem x_X4_whyNot (l : Launch) (hl9 : l.stackTraces = false) (z0 : Nat) (D : va_G) (t : Nat → ClassId) (x0 : Nat) (s0 : Nat) (s1 : Nat) (e0 : Nat) (E : Nat → Nat) (A : Nat → Nat) (B : Nat → Nat) (G : Nat → Nat) (T : va_W) (μ : XS) (a1 : Int32) (a2 : Int32) (a3 : Int32) (xE : String) (sz : Nat) (h : f_X4_whyNot μ a1 a2 a3 = some (.inr xE)) : vx_Met l yX4_whyNot (ws_ yX4_whyNot cX4_whyNot 4 (some .int)) rx_X4_whyNot (PM z0 D t [.ref (x0), .int a1, .int a2, .int a3] (XW x0 s0 s1 e0 E A B G T t μ) (XL x0 s0 s1 e0 E A B G T μ) sz) (fun _ _ _ _ => False) (XM xE D (XW x0 s0 s1 e0 E A B G T t μ) (XL x0 s0 s1 e0 E A B G T μ) sz) 1 6 (OA (XL x0 s0 s1 e0 E A B G T μ) sz) := by
  refine vx_ofW (cc := cX4_whyNot) (maxL := 4) (ret := (some .int)) (by decide) rfl ?_
  intro p e s m args below meth c s₁ Bo hml hT hv
  obtain ⟨rfl, hC, hsz, hP, hD, hZ⟩ := hv
  have hx := Bo.exec
  have hb := Bo.bytes
  have hr := Bo.returns
  have hts : ∀ w ∈ LA, w.before _ s = true := fun w hw => atoms_spec (ws := ws_ yX4_whyNot cX4_whyNot 4 (some .int)) Bo.pre w (List.mem_cons_of_mem _ hw)
  have hown : s.vm.findClass RX4 = some m.cls := findClass_of_methodNamed Bo.named
  have hlocks := Bo.notSynchronized
  have hK := hC.1
  subst hsz
  have hl := lv_entry ([.ref (x0), .int a1, .int a2, .int a3]) (n := 4) (Nat.le_of_ble_eq_true rfl)
  rw [lg_entry_eq]
  generalize (lg_sl ([.ref (x0), .int a1, .int a2, .int a3]) ++ List.replicate (4 - (lg_sl ([.ref (x0), .int a1, .int a2, .int a3])).length) Slot.unset).toArray = ls at hl ⊢
  have hl : lv_has ls 4 [(0, .ref (x0)), (1, .int a1), (2, .int a2), (3, .int a3)] := hl
  suffices K9 : ∀ (H : Heap) (locs : List Loc), va_P D vwCl (XW x0 s0 s1 e0 E A B G T t μ) H → va_S (OA (XL x0 s0 s1 e0 E A B G T μ) s.heap.size) s.heap H locs → W p l e (headSpec (ws_ yX4_whyNot cX4_whyNot 4 (some .int)) rx_X4_whyNot).room s m ([.ref (x0), .int a1, .int a2, .int a3] : List Value).toArray below meth c H locs 0 0 (vx_MQ below (fun _ _ _ _ => False) (XM xE D (XW x0 s0 s1 e0 E A B G T t μ) (XL x0 s0 s1 e0 E A B G T μ) s.heap.size) ([.ref (x0), .int a1, .int a2, .int a3] : List Value).toArray s 1 6 (OA (XL x0 s0 s1 e0 E A B G T μ) s.heap.size)) (F0 m 0 ls []) from K9 s.heap [] hP va_S.rf
  intro H locs hP hS
  have hSz : s.heap.size ≤ H.size := hS.1
  unfold f_X4_whyNot at h
  refine lv_iload_n hx hb dX4_whyNot_0 rfl (lv_at hl 3 rfl) ?_
  obtain ⟨r1o, er1, h⟩ := obind h
  rcases r1o with r1 | Er1
  · replace h := sumL h
    refine call_R (va_runS (As := [.int a3]) (rest := []) ⟨hx, hb, hml, hown, hts⟩ (c_X4_requireTurn l z0 D t a3 _ er1) (kS hts qw614 qw615 qw1 qw616 ok_X4_requireTurn ⟨Nat.le_of_ble_eq_true rfl, Nat.le_of_ble_eq_true rfl⟩) ⟨PR.blind, fun U hU hW => ⟨rfl, by rw [hU]; exact (hC.at hS hZ).warm hW, by rw [hU]; exact va_P_nil⟩⟩ rfl rfl hl.1 rfl (lv_room (Nat.le_of_ble_eq_true rfl)) dX4_whyNot_1 ⟨Nat.le_of_ble_eq_true rfl, Nat.le_of_ble_eq_true rfl⟩) ?_
    refine lv_aload_n hx hb dX4_whyNot_4 rfl (lv_at hl 0 rfl) ?_
    refine va_get hx hb hts inX4 hown hK hP 0 rfl rfl 4 (by decide) (hts _ qw161) (fun _ h9 => h9) rfl dX4_whyNot_5 ?_
    refine lv_iload_n hx hb dX4_whyNot_8 rfl (lv_at hl 1 rfl) ?_
    refine lv_iload_n hx hb dX4_whyNot_9 rfl (lv_at hl 2 rfl) ?_
    refine lv_iload_n hx hb dX4_whyNot_10 rfl (lv_at hl 3 rfl) ?_
    obtain ⟨r2, er2, h⟩ := obind h
    refine call_R (va_runV (As := [.int a1, .int a2, .int a3]) (rest := []) ⟨hx, hb, hml, hown, hts⟩ (c_X1_whyRefused l z0 D t G ((x_wide μ), (x_high μ), (x_pond μ), (x_walls μ), (x_paved μ), (x_tc μ), (x_flips μ), (x_refused μ), (x_names μ)) a1 a2 a3 _ er2) (kV hts qw618 qw359 qw360 qw8 qw361 ok_X1_whyRefused ⟨Nat.le_of_ble_eq_true rfl, Nat.le_of_ble_eq_true rfl⟩) ⟨PR.blind, va_recv hK (sub_X_G (μ := μ) hP) (ci := 2) (q0 := 0) rfl rfl, fun U hU hW => ⟨rfl, by rw [hU]; exact (hC.at hS hZ).warm hW, by rw [hU]; exact (sub_X_G (μ := μ) hP)⟩⟩ rfl rfl hl.1 rfl (lv_room (Nat.le_of_ble_eq_true rfl)) dX4_whyNot_11 ⟨Nat.le_of_ble_eq_true rfl, Nat.le_of_ble_eq_true rfl⟩) ?_
    exact absurd (Option.some.inj h) (fun z => by cases z)
  · replace h := sumR h
    obtain rfl := Sum.inr.inj (Option.some.inj h)
    refine call_X (vx_runS (As := [.int a3]) (rest := []) ⟨hx, hb, hml, hown, hts⟩ (x_X4_requireTurn l hl9 z0 D t a3 _ H.size er1) (kS hts qw614 qw615 qw1 qw616 ok_X4_requireTurn ⟨Nat.le_of_ble_eq_true rfl, Nat.le_of_ble_eq_true rfl⟩) ⟨PM.blind, fun U hU hW => ⟨rfl, by rw [hU]; exact (hC.at hS hZ).warm hW, by rw [hU], by rw [hU]; exact va_P_nil, ⟨(va_D_nil (A := OA [] s.heap.size)).1, fun _ _ h9 => Or.inl (in_map (L := []) rfl h9)⟩, fun q hq => hZ q (OA.nil hSz q hq)⟩⟩ rfl rfl hl.1 rfl (lv_room (Nat.le_of_ble_eq_true rfl)) dX4_whyNot_1 ⟨Nat.le_of_ble_eq_true rfl, Nat.le_of_ble_eq_true rfl⟩) hS (OA.nil hSz) (fun H locs q9 ce9 hP1 hD1 hS hsz1 hk1 hce hcv hcc => ?_)
    have hP : va_P D vwCl (XW x0 s0 s1 e0 E A B G T t μ) H := va_P.keptN hP hk1
    exact vx_out (fun x9 hx9 => (hT x9 hx9).elim) hlocks hce hcv hcc (fun t9 h8 _ => XM.mk2 hP hD hS h8) hS.2.2 (Nat.le_of_ble_eq_true rfl) (Nat.le_of_ble_eq_true rfl)
