abbrev rm_X5_keep : Room := { frames := 1, cells := 0, slots := 0, locals := 40 }
theorem ok_X5_keep : okY yX5_keep 1 := ⟨by decide +kernel, by decide +kernel, by decide +kernel⟩
set_option maxHeartbeats 4000000 in
set_option maxRecDepth 100000 in
theorem c_X5_keep (l : Launch) (z0 : Nat) (D : va_G) (t : Nat → ClassId) (A : Nat → Nat) (μ : MS) (a1 : Int32) (res : Int32 × (Nat → Int32) × (Nat → Int32) × (Int32)) (sz : Nat) (h : f_X5_keep μ a1 = some res) : Met l yX5_keep (ws_ yX5_keep cX5_keep 2 (some .int)) rm_X5_keep (PM z0 D t [.ref (A 0), .int a1] (MW A t μ) (ML A) sz) (QM (some (.int res.1)) D (MW A t (m_thrown' (m_kept' (m_s' μ res.2.1) res.2.2.1) res.2.2.2)) (ML A) sz) 0 0 (OA (ML A) sz) := by
  refine Met.ofW (cc := cX5_keep) (maxL := 2) (ret := (some .int)) (by decide) rfl ?_
  intro p e s m args below meth c s₁ Bo hml hv
  obtain ⟨rfl, hC, hsz, hP, hD, hZ⟩ := hv
  have hx := Bo.exec
  have hb := Bo.bytes
  have hr := Bo.returns
  have hts : ∀ w ∈ LA, w.before _ s = true := fun w hw => atoms_spec (ws := ws_ yX5_keep cX5_keep 2 (some .int)) Bo.pre w (List.mem_cons_of_mem _ hw)
  have hown : s.vm.findClass RX5 = some m.cls := findClass_of_methodNamed Bo.named
  have hlocks := Bo.notSynchronized
  have hK := hC.1
  subst hsz
  have hl := lv_entry ([.ref (A 0), .int a1]) (n := 2) (Nat.le_of_ble_eq_true rfl)
  rw [lg_entry_eq]
  generalize (lg_sl ([.ref (A 0), .int a1]) ++ List.replicate (2 - (lg_sl ([.ref (A 0), .int a1])).length) Slot.unset).toArray = ls at hl ⊢
  have hl : lv_has ls 2 [(0, .ref (A 0)), (1, .int a1)] := hl
  suffices K9 : ∀ (H : Heap) (locs : List Loc), va_P D vwCl (MW A t μ) H → va_S (OA (ML A) s.heap.size) s.heap H locs → W p l e (headSpec (ws_ yX5_keep cX5_keep 2 (some .int)) rm_X5_keep).room s m ([.ref (A 0), .int a1] : List Value).toArray below meth c H locs 0 0 (MQ below (QM (some (.int res.1)) D (MW A t (m_thrown' (m_kept' (m_s' μ res.2.1) res.2.2.1) res.2.2.2)) (ML A) s.heap.size) ([.ref (A 0), .int a1] : List Value).toArray s 0 0 (OA (ML A) s.heap.size)) (F0 m 0 ls []) from K9 s.heap [] hP va_S.rf
  intro H locs hP hS
  have hSz : s.heap.size ≤ H.size := hS.1
  unfold f_X5_keep at h
  refine lv_aload_n hx hb dX5_keep_0 rfl (lv_at hl 0 rfl) ?_
  refine lv_iload_n hx hb dX5_keep_1 rfl (lv_at hl 1 rfl) ?_
  refine lv_iconst (v := (0)) hx hb dX5_keep_2 (by decide) ?_
  refine lv_iconst (v := (1)) hx hb dX5_keep_3 (by decide) ?_
  obtain ⟨r1, er1, h⟩ := obind h
  refine call_R (va_runS (As := [.int a1, .int (0 : Int32), .int (1 : Int32)]) (rest := [.ref (A 0)]) ⟨hx, hb, hml, hown, hts⟩ (c_X5_in l z0 D t a1 (0 : Int32) (1 : Int32) _ er1) (kS hts qw1008 qw1009 qw9 qw1010 ok_X5_in ⟨Nat.le_of_ble_eq_true rfl, Nat.le_of_ble_eq_true rfl⟩) ⟨PR.blind, fun U hU hW => ⟨rfl, by rw [hU]; exact (hC.at hS hZ).warm hW, by rw [hU]; exact va_P_nil⟩⟩ rfl rfl hl.1 rfl (lv_room (Nat.le_of_ble_eq_true rfl)) dX5_keep_4 ⟨Nat.le_of_ble_eq_true rfl, Nat.le_of_ble_eq_true rfl⟩) ?_
  refine lv_iconst (v := (1)) hx hb dX5_keep_7 (by decide) ?_
  obtain ⟨r2, er2, h⟩ := obind h
  refine call_M (va_runV (As := [.int r1, .int (1 : Int32)]) (rest := []) ⟨hx, hb, hml, hown, hts⟩ (c_X5_goes l z0 D t A μ r1 (1 : Int32) _ H.size er2) (kV hts qw1011 qw1013 qs31 qw9 qw1014 ok_X5_goes ⟨Nat.le_of_ble_eq_true rfl, Nat.le_of_ble_eq_true rfl⟩) ⟨PM.blind, va_recv hK hP (ci := 6) (q0 := 0) rfl rfl, fun U hU hW => ⟨rfl, by rw [hU]; exact (hC.at hS hZ).warm hW, by rw [hU], by rw [hU]; exact hP, ⟨hD.1, fun _ _ h9 => Or.inl (in_map (L := (ML A)) rfl h9)⟩, fun q hq => hZ q (OA.ofD hD rfl hSz q hq)⟩⟩ rfl rfl hl.1 rfl (lv_room (Nat.le_of_ble_eq_true rfl)) dX5_keep_8 ⟨Nat.le_of_ble_eq_true rfl, Nat.le_of_ble_eq_true rfl⟩) hS (OA.ofD hD rfl hSz) (fun H locs hP hD1 hS _ _ => ?_)
  have hP : va_P D vwCl (MW A t (m_thrown' μ r2.2)) H := hP
  have hD : va_D (OA (ML A) s.heap.size) (MW A t (m_thrown' μ r2.2)) := hD1.weaken (fun _ q _ h9 => OA.ofD hD rfl hSz q.1 h9)
  have hSz : s.heap.size ≤ H.size := hS.1
  refine lv_if_ne (tgt := 16) hx hb dX5_keep_11 (by decide) (fun hc => ?_) (fun hc => ?_)
  · have h := iteF hc h
    refine lv_aload_n hx hb dX5_keep_16 rfl (lv_at hl 0 rfl) ?_
    refine lv_iconst (v := (0)) hx hb dX5_keep_17 (by decide) ?_
    refine lv_bipush (v := (7)) hx hb dX5_keep_18 (by decide) ?_
    refine lv_iload_n hx hb dX5_keep_20 rfl (lv_at hl 1 rfl) ?_
    refine lv_iadd hx hb dX5_keep_21 ?_
    obtain ⟨r3, er3, h⟩ := obind h
    refine call_M (va_runV (As := [.int (0 : Int32), .int ((7 : Int32) + a1)]) (rest := []) ⟨hx, hb, hml, hown, hts⟩ (c_X5_copies l z0 D t A (m_thrown' μ r2.2) (0 : Int32) ((7 : Int32) + a1) _ H.size er3) (kV hts qw1019 qw1021 qs33 qw9 qw1022 ok_X5_copies ⟨Nat.le_of_ble_eq_true rfl, Nat.le_of_ble_eq_true rfl⟩) ⟨PM.blind, va_recv hK hP (ci := 6) (q0 := 0) rfl rfl, fun U hU hW => ⟨rfl, by rw [hU]; exact (hC.at hS hZ).warm hW, by rw [hU], by rw [hU]; exact hP, ⟨hD.1, fun _ _ h9 => Or.inl (in_map (L := (ML A)) rfl h9)⟩, fun q hq => hZ q (OA.ofD hD rfl hSz q hq)⟩⟩ rfl rfl hl.1 rfl (lv_room (Nat.le_of_ble_eq_true rfl)) dX5_keep_22 ⟨Nat.le_of_ble_eq_true rfl, Nat.le_of_ble_eq_true rfl⟩) hS (OA.ofD hD rfl hSz) (fun H locs hP hD1 hS _ _ => ?_)
    have hP : va_P D vwCl (MW A t (m_thrown' (m_s' μ r3) r2.2)) H := hP
    have hD : va_D (OA (ML A) s.heap.size) (MW A t (m_thrown' (m_s' μ r3) r2.2)) := hD1.weaken (fun _ q _ h9 => OA.ofD hD rfl hSz q.1 h9)
    have hSz : s.heap.size ≤ H.size := hS.1
    refine lv_aload_n hx hb dX5_keep_25 rfl (lv_at hl 0 rfl) ?_
    refine va_get hx hb hts inX5 hown hK hP 0 rfl rfl 2 (by decide) (hts _ qw969) (fun _ h9 => h9) rfl dX5_keep_26 ?_
    refine lv_iload_n hx hb dX5_keep_29 rfl (lv_at hl 1 rfl) ?_
    refine lv_iconst (v := (1)) hx hb dX5_keep_30 (by decide) ?_
    obtain ⟨f4, ef4, h⟩ := obind h
    refine k_zast (ws' := (MW A t (m_thrown' (m_kept' (m_s' μ r3) f4) r2.2))) hx hb hK hP hD hS 2 rfl ef4 rfl dX5_keep_31 (fun H locs hP hD hS => ?_)
    have hSz : s.heap.size ≤ H.size := hS.1
    refine lv_aload_n hx hb dX5_keep_32 rfl (lv_at hl 0 rfl) ?_
    refine va_get hx hb hts inX5 hown hK hP 0 rfl rfl 0 (by decide) (hts _ qw967) (fun _ h9 => h9) rfl dX5_keep_33 ?_
    refine lv_sipush (v := (131)) hx hb dX5_keep_36 (by decide) ?_
    obtain ⟨v5, ev5, h⟩ := obind h
    refine k_iald hx hb hK hP 1 rfl ev5 dX5_keep_39 ?_
    obtain rfl := Option.some.inj h
    exact W.iret hx hb hr (fun t ht hW => ⟨rfl, by rw [ht]; exact hP, hD, hS.F ht⟩) hS.2.2 dX5_keep_40
  · have h := iteT hc h
    refine lv_iconst (v := (0)) hx hb dX5_keep_14 (by decide) ?_
    obtain rfl := Option.some.inj h
    exact W.iret hx hb hr (fun t ht hW => ⟨rfl, by rw [ht]; exact hP, hD, hS.F ht⟩) hS.2.2 dX5_keep_15

abbrev rm_X5_goBack : Room := { frames := 2, cells := 0, slots := 0, locals := 44 }
theorem ok_X5_goBack : okY yX5_goBack 1 := ⟨by decide +kernel, by decide +kernel, by decide +kernel⟩
set_option maxHeartbeats 4000000 in
set_option maxRecDepth 100000 in
theorem c_X5_goBack (l : Launch) (z0 : Nat) (D : va_G) (t : Nat → ClassId) (A : Nat → Nat) (μ : MS) (a1 : Int32) (res : Int32 × (Nat → Int32) × (Int32) × (Int32)) (sz : Nat) (h : f_X5_goBack μ a1 = some res) : Met l yX5_goBack (ws_ yX5_goBack cX5_goBack 2 (some .int)) rm_X5_goBack (PM z0 D t [.ref (A 0), .int a1] (MW A t μ) (ML A) sz) (QM (some (.int res.1)) D (MW A t (m_thrown' (m_states' (m_s' μ res.2.1) res.2.2.1) res.2.2.2)) (ML A) sz) 0 0 (OA (ML A) sz) := by
  refine Met.ofW (cc := cX5_goBack) (maxL := 2) (ret := (some .int)) (by decide) rfl ?_
  intro p e s m args below meth c s₁ Bo hml hv
  obtain ⟨rfl, hC, hsz, hP, hD, hZ⟩ := hv
  have hx := Bo.exec
  have hb := Bo.bytes
  have hr := Bo.returns
  have hts : ∀ w ∈ LA, w.before _ s = true := fun w hw => atoms_spec (ws := ws_ yX5_goBack cX5_goBack 2 (some .int)) Bo.pre w (List.mem_cons_of_mem _ hw)
  have hown : s.vm.findClass RX5 = some m.cls := findClass_of_methodNamed Bo.named
  have hlocks := Bo.notSynchronized
  have hK := hC.1
  subst hsz
  have hl := lv_entry ([.ref (A 0), .int a1]) (n := 2) (Nat.le_of_ble_eq_true rfl)
  rw [lg_entry_eq]
  generalize (lg_sl ([.ref (A 0), .int a1]) ++ List.replicate (2 - (lg_sl ([.ref (A 0), .int a1])).length) Slot.unset).toArray = ls at hl ⊢
  have hl : lv_has ls 2 [(0, .ref (A 0)), (1, .int a1)] := hl
  suffices K9 : ∀ (H : Heap) (locs : List Loc), va_P D vwCl (MW A t μ) H → va_S (OA (ML A) s.heap.size) s.heap H locs → W p l e (headSpec (ws_ yX5_goBack cX5_goBack 2 (some .int)) rm_X5_goBack).room s m ([.ref (A 0), .int a1] : List Value).toArray below meth c H locs 0 0 (MQ below (QM (some (.int res.1)) D (MW A t (m_thrown' (m_states' (m_s' μ res.2.1) res.2.2.1) res.2.2.2)) (ML A) s.heap.size) ([.ref (A 0), .int a1] : List Value).toArray s 0 0 (OA (ML A) s.heap.size)) (F0 m 0 ls []) from K9 s.heap [] hP va_S.rf
  intro H locs hP hS
  have hSz : s.heap.size ≤ H.size := hS.1
  unfold f_X5_goBack at h
  refine lv_aload_n hx hb dX5_goBack_0 rfl (lv_at hl 0 rfl) ?_
  refine lv_iload_n hx hb dX5_goBack_1 rfl (lv_at hl 1 rfl) ?_
  refine lv_iconst (v := (0)) hx hb dX5_goBack_2 (by decide) ?_
  refine lv_iconst (v := (1)) hx hb dX5_goBack_3 (by decide) ?_
  obtain ⟨r1, er1, h⟩ := obind h
  refine call_R (va_runS (As := [.int a1, .int (0 : Int32), .int (1 : Int32)]) (rest := [.ref (A 0)]) ⟨hx, hb, hml, hown, hts⟩ (c_X5_in l z0 D t a1 (0 : Int32) (1 : Int32) _ er1) (kS hts qw1008 qw1009 qw9 qw1010 ok_X5_in ⟨Nat.le_of_ble_eq_true rfl, Nat.le_of_ble_eq_true rfl⟩) ⟨PR.blind, fun U hU hW => ⟨rfl, by rw [hU]; exact (hC.at hS hZ).warm hW, by rw [hU]; exact va_P_nil⟩⟩ rfl rfl hl.1 rfl (lv_room (Nat.le_of_ble_eq_true rfl)) dX5_goBack_4 ⟨Nat.le_of_ble_eq_true rfl, Nat.le_of_ble_eq_true rfl⟩) ?_
  refine lv_iload_n hx hb dX5_goBack_7 rfl (lv_at hl 1 rfl) ?_
  refine lv_iconst (v := (0)) hx hb dX5_goBack_8 (by decide) ?_
  refine lv_iconst (v := (1)) hx hb dX5_goBack_9 (by decide) ?_
  obtain ⟨r2, er2, h⟩ := obind h
  refine call_R (va_runS (As := [.int a1, .int (0 : Int32), .int (1 : Int32)]) (rest := [.int r1, .ref (A 0)]) ⟨hx, hb, hml, hown, hts⟩ (c_X5_in l z0 D t a1 (0 : Int32) (1 : Int32) _ er2) (kS hts qw1008 qw1009 qw9 qw1010 ok_X5_in ⟨Nat.le_of_ble_eq_true rfl, Nat.le_of_ble_eq_true rfl⟩) ⟨PR.blind, fun U hU hW => ⟨rfl, by rw [hU]; exact (hC.at hS hZ).warm hW, by rw [hU]; exact va_P_nil⟩⟩ rfl rfl hl.1 rfl (lv_room (Nat.le_of_ble_eq_true rfl)) dX5_goBack_10 ⟨Nat.le_of_ble_eq_true rfl, Nat.le_of_ble_eq_true rfl⟩) ?_
  obtain ⟨o4, eo4, h⟩ := obind h
  have hJ30_o4 : ∀ (ls : Array Slot) (H : Heap) (locs : List Loc), lv_has ls 2 [(0, .ref (A 0)), (1, .int a1)] → va_P D vwCl (MW A t μ) H → va_D (OA (ML A) s.heap.size) (MW A t μ) → va_S (OA (ML A) s.heap.size) s.heap H locs → W p l e (headSpec (ws_ yX5_goBack cX5_goBack 2 (some .int)) rm_X5_goBack).room s m ([.ref (A 0), .int a1] : List Value).toArray below meth c H locs 0 0 (MQ below (QM (some (.int res.1)) D (MW A t (m_thrown' (m_states' (m_s' μ res.2.1) res.2.2.1) res.2.2.2)) (ML A) s.heap.size) ([.ref (A 0), .int a1] : List Value).toArray s 0 0 (OA (ML A) s.heap.size)) (F0 m 30 ls [.int o4, .int r1, .ref (A 0)]) := by
    intro ls H locs hl hP hD hS
    have hSz : s.heap.size ≤ H.size := hS.1
    obtain ⟨r6, er6, h⟩ := obind h
    refine call_M (va_runV (As := [.int r1, .int o4]) (rest := []) ⟨hx, hb, hml, hown, hts⟩ (c_X5_goes l z0 D t A μ r1 o4 _ H.size er6) (kV hts qw1011 qw1013 qs31 qw9 qw1014 ok_X5_goes ⟨Nat.le_of_ble_eq_true rfl, Nat.le_of_ble_eq_true rfl⟩) ⟨PM.blind, va_recv hK hP (ci := 6) (q0 := 0) rfl rfl, fun U hU hW => ⟨rfl, by rw [hU]; exact (hC.at hS hZ).warm hW, by rw [hU], by rw [hU]; exact hP, ⟨hD.1, fun _ _ h9 => Or.inl (in_map (L := (ML A)) rfl h9)⟩, fun q hq => hZ q (OA.ofD hD rfl hSz q hq)⟩⟩ rfl rfl hl.1 rfl (lv_room (Nat.le_of_ble_eq_true rfl)) dX5_goBack_30 ⟨Nat.le_of_ble_eq_true rfl, Nat.le_of_ble_eq_true rfl⟩) hS (OA.ofD hD rfl hSz) (fun H locs hP hD1 hS _ _ => ?_)
    have hP : va_P D vwCl (MW A t (m_thrown' μ r6.2)) H := hP
    have hD : va_D (OA (ML A) s.heap.size) (MW A t (m_thrown' μ r6.2)) := hD1.weaken (fun _ q _ h9 => OA.ofD hD rfl hSz q.1 h9)
    have hSz : s.heap.size ≤ H.size := hS.1
    refine lv_if_ne (tgt := 38) hx hb dX5_goBack_33 (by decide) (fun hc => ?_) (fun hc => ?_)
    · have h := iteF hc h
      refine lv_aload_n hx hb dX5_goBack_38 rfl (lv_at hl 0 rfl) ?_
      obtain ⟨r7, er7, h⟩ := obind h
      refine call_M (va_runV (As := []) (rest := []) ⟨hx, hb, hml, hown, hts⟩ (c_X5_saves l z0 D t A (m_thrown' μ r6.2) _ H.size er7) (kV hts qw1015 qw1017 qs32 qw9 qw1018 ok_X5_saves ⟨Nat.le_of_ble_eq_true rfl, Nat.le_of_ble_eq_true rfl⟩) ⟨PM.blind, va_recv hK hP (ci := 6) (q0 := 0) rfl rfl, fun U hU hW => ⟨rfl, by rw [hU]; exact (hC.at hS hZ).warm hW, by rw [hU], by rw [hU]; exact hP, ⟨hD.1, fun _ _ h9 => Or.inl (in_map (L := (ML A)) rfl h9)⟩, fun q hq => hZ q (OA.ofD hD rfl hSz q hq)⟩⟩ rfl rfl hl.1 rfl (lv_room (Nat.le_of_ble_eq_true rfl)) dX5_goBack_39 ⟨Nat.le_of_ble_eq_true rfl, Nat.le_of_ble_eq_true rfl⟩) hS (OA.ofD hD rfl hSz) (fun H locs hP hD1 hS _ _ => ?_)
      have hP : va_P D vwCl (MW A t (m_thrown' (m_states' (m_s' μ r7.1) r7.2) r6.2)) H := hP
      have hD : va_D (OA (ML A) s.heap.size) (MW A t (m_thrown' (m_states' (m_s' μ r7.1) r7.2) r6.2)) := hD1.weaken (fun _ q _ h9 => OA.ofD hD rfl hSz q.1 h9)
      have hSz : s.heap.size ≤ H.size := hS.1
      refine lv_aload_n hx hb dX5_goBack_42 rfl (lv_at hl 0 rfl) ?_
      refine lv_bipush (v := (7)) hx hb dX5_goBack_43 (by decide) ?_
      refine lv_iload_n hx hb dX5_goBack_45 rfl (lv_at hl 1 rfl) ?_
      refine lv_iadd hx hb dX5_goBack_46 ?_
      refine lv_iconst (v := (0)) hx hb dX5_goBack_47 (by decide) ?_
      obtain ⟨r8, er8, h⟩ := obind h
      refine call_M (va_runV (As := [.int ((7 : Int32) + a1), .int (0 : Int32)]) (rest := []) ⟨hx, hb, hml, hown, hts⟩ (c_X5_copies l z0 D t A (m_thrown' (m_states' (m_s' μ r7.1) r7.2) r6.2) ((7 : Int32) + a1) (0 : Int32) _ H.size er8) (kV hts qw1019 qw1021 qs33 qw9 qw1022 ok_X5_copies ⟨Nat.le_of_ble_eq_true rfl, Nat.le_of_ble_eq_true rfl⟩) ⟨PM.blind, va_recv hK hP (ci := 6) (q0 := 0) rfl rfl, fun U hU hW => ⟨rfl, by rw [hU]; exact (hC.at hS hZ).warm hW, by rw [hU], by rw [hU]; exact hP, ⟨hD.1, fun _ _ h9 => Or.inl (in_map (L := (ML A)) rfl h9)⟩, fun q hq => hZ q (OA.ofD hD rfl hSz q hq)⟩⟩ rfl rfl hl.1 rfl (lv_room (Nat.le_of_ble_eq_true rfl)) dX5_goBack_48 ⟨Nat.le_of_ble_eq_true rfl, Nat.le_of_ble_eq_true rfl⟩) hS (OA.ofD hD rfl hSz) (fun H locs hP hD1 hS _ _ => ?_)
      have hP : va_P D vwCl (MW A t (m_thrown' (m_states' (m_s' μ r8) r7.2) r6.2)) H := hP
      have hD : va_D (OA (ML A) s.heap.size) (MW A t (m_thrown' (m_states' (m_s' μ r8) r7.2) r6.2)) := hD1.weaken (fun _ q _ h9 => OA.ofD hD rfl hSz q.1 h9)
      have hSz : s.heap.size ≤ H.size := hS.1
      refine lv_aload_n hx hb dX5_goBack_51 rfl (lv_at hl 0 rfl) ?_
      refine va_get hx hb hts inX5 hown hK hP 0 rfl rfl 0 (by decide) (hts _ qw967) (fun _ h9 => h9) rfl dX5_goBack_52 ?_
      refine lv_sipush (v := (131)) hx hb dX5_goBack_55 (by decide) ?_
      obtain ⟨v9, ev9, h⟩ := obind h
      refine k_iald hx hb hK hP 1 rfl ev9 dX5_goBack_58 ?_
      obtain rfl := Option.some.inj h
      exact W.iret hx hb hr (fun t ht hW => ⟨rfl, by rw [ht]; exact hP, hD, hS.F ht⟩) hS.2.2 dX5_goBack_59
    · have h := iteT hc h
      refine lv_iconst (v := (0)) hx hb dX5_goBack_36 (by decide) ?_
      obtain rfl := Option.some.inj h
      exact W.iret hx hb hr (fun t ht hW => ⟨rfl, by rw [ht]; exact hP, hD, hS.F ht⟩) hS.2.2 dX5_goBack_37
  have h := eo4
  clear eo4
  refine lv_if_eq (tgt := 29) hx hb dX5_goBack_13 (by decide) (fun hc => ?_) (fun hc => ?_)
  · have h := iteT hc h
    refine lv_iconst (v := (0)) hx hb dX5_goBack_29 (by decide) ?_
    obtain rfl := Option.some.inj h
    exact hJ30_o4 ls H locs (lv_sub hl [0, 1] rfl) hP hD hS
  · have h := iteF hc h
    refine lv_aload_n hx hb dX5_goBack_16 rfl (lv_at hl 0 rfl) ?_
    refine va_get hx hb hts inX5 hown hK hP 0 rfl rfl 2 (by decide) (hts _ qw969) (fun _ h9 => h9) rfl dX5_goBack_17 ?_
    refine lv_iload_n hx hb dX5_goBack_20 rfl (lv_at hl 1 rfl) ?_
    obtain ⟨v5, ev5, h⟩ := obind h
    refine k_zald hx hb hK hP 2 rfl ev5 dX5_goBack_21 ?_
    refine lv_if_eq (tgt := 29) hx hb dX5_goBack_22 (by decide) (fun hc => ?_) (fun hc => ?_)
    · have h := iteT hc h
      refine lv_iconst (v := (0)) hx hb dX5_goBack_29 (by decide) ?_
      obtain rfl := Option.some.inj h
      exact hJ30_o4 ls H locs (lv_sub hl [0, 1] rfl) hP hD hS
    · have h := iteF hc h
      refine lv_iconst (v := (1)) hx hb dX5_goBack_25 (by decide) ?_
      refine lv_goto (tgt := 30) hx hb dX5_goBack_26 (by decide) ?_
      obtain rfl := Option.some.inj h
      exact hJ30_o4 ls H locs (lv_sub hl [0, 1] rfl) hP hD hS

abbrev rm_X5_undo : Room := { frames := 1, cells := 0, slots := 0, locals := 23 }
theorem ok_X5_undo : okY yX5_undo 0 := ⟨by decide +kernel, by decide +kernel, by decide +kernel⟩
set_option maxHeartbeats 4000000 in
set_option maxRecDepth 100000 in
theorem c_X5_undo (l : Launch) (z0 : Nat) (D : va_G) (t : Nat → ClassId) (A : Nat → Nat) (μ : MS) (res : Int32 × (Nat → Int32) × (Int32) × (Int32)) (sz : Nat) (h : f_X5_undo μ = some res) : Met l yX5_undo (ws_ yX5_undo cX5_undo 1 (some .int)) rm_X5_undo (PM z0 D t [.ref (A 0)] (MW A t μ) (ML A) sz) (QM (some (.int res.1)) D (MW A t (m_thrown' (m_states' (m_s' μ res.2.1) res.2.2.1) res.2.2.2)) (ML A) sz) 0 0 (OA (ML A) sz) := by
  refine Met.ofW (cc := cX5_undo) (maxL := 1) (ret := (some .int)) (by decide) rfl ?_
  intro p e s m args below meth c s₁ Bo hml hv
  obtain ⟨rfl, hC, hsz, hP, hD, hZ⟩ := hv
  have hx := Bo.exec
  have hb := Bo.bytes
  have hr := Bo.returns
  have hts : ∀ w ∈ LA, w.before _ s = true := fun w hw => atoms_spec (ws := ws_ yX5_undo cX5_undo 1 (some .int)) Bo.pre w (List.mem_cons_of_mem _ hw)
  have hown : s.vm.findClass RX5 = some m.cls := findClass_of_methodNamed Bo.named
  have hlocks := Bo.notSynchronized
  have hK := hC.1
  subst hsz
  have hl := lv_entry ([.ref (A 0)]) (n := 1) (Nat.le_of_ble_eq_true rfl)
  rw [lg_entry_eq]
  generalize (lg_sl ([.ref (A 0)]) ++ List.replicate (1 - (lg_sl ([.ref (A 0)])).length) Slot.unset).toArray = ls at hl ⊢
  have hl : lv_has ls 1 [(0, .ref (A 0))] := hl
  suffices K9 : ∀ (H : Heap) (locs : List Loc), va_P D vwCl (MW A t μ) H → va_S (OA (ML A) s.heap.size) s.heap H locs → W p l e (headSpec (ws_ yX5_undo cX5_undo 1 (some .int)) rm_X5_undo).room s m ([.ref (A 0)] : List Value).toArray below meth c H locs 0 0 (MQ below (QM (some (.int res.1)) D (MW A t (m_thrown' (m_states' (m_s' μ res.2.1) res.2.2.1) res.2.2.2)) (ML A) s.heap.size) ([.ref (A 0)] : List Value).toArray s 0 0 (OA (ML A) s.heap.size)) (F0 m 0 ls []) from K9 s.heap [] hP va_S.rf
  intro H locs hP hS
  have hSz : s.heap.size ≤ H.size := hS.1
  unfold f_X5_undo at h
  refine lv_aload_n hx hb dX5_undo_0 rfl (lv_at hl 0 rfl) ?_
  refine lv_aload_n hx hb dX5_undo_1 rfl (lv_at hl 0 rfl) ?_
  refine va_get hx hb hts inX5 hown hK hP 0 rfl rfl 1 (by decide) (hts _ qw968) (fun _ h9 => h9) rfl dX5_undo_2 ?_
  obtain ⟨o1, eo1, h⟩ := obind h
  have hJ13_o1 : ∀ (ls : Array Slot) (H : Heap) (locs : List Loc), lv_has ls 1 [(0, .ref (A 0))] → va_P D vwCl (MW A t μ) H → va_D (OA (ML A) s.heap.size) (MW A t μ) → va_S (OA (ML A) s.heap.size) s.heap H locs → W p l e (headSpec (ws_ yX5_undo cX5_undo 1 (some .int)) rm_X5_undo).room s m ([.ref (A 0)] : List Value).toArray below meth c H locs 0 0 (MQ below (QM (some (.int res.1)) D (MW A t (m_thrown' (m_states' (m_s' μ res.2.1) res.2.2.1) res.2.2.2)) (ML A) s.heap.size) ([.ref (A 0)] : List Value).toArray s 0 0 (OA (ML A) s.heap.size)) (F0 m 13 ls [.int o1, .ref (A 0)]) := by
    intro ls H locs hl hP hD hS
    have hSz : s.heap.size ≤ H.size := hS.1
    refine lv_iconst (v := (1)) hx hb dX5_undo_13 (by decide) ?_
    obtain ⟨r2, er2, h⟩ := obind h
    refine call_M (va_runV (As := [.int o1, .int (1 : Int32)]) (rest := []) ⟨hx, hb, hml, hown, hts⟩ (c_X5_goes l z0 D t A μ o1 (1 : Int32) _ H.size er2) (kV hts qw1011 qw1013 qs31 qw9 qw1014 ok_X5_goes ⟨Nat.le_of_ble_eq_true rfl, Nat.le_of_ble_eq_true rfl⟩) ⟨PM.blind, va_recv hK hP (ci := 6) (q0 := 0) rfl rfl, fun U hU hW => ⟨rfl, by rw [hU]; exact (hC.at hS hZ).warm hW, by rw [hU], by rw [hU]; exact hP, ⟨hD.1, fun _ _ h9 => Or.inl (in_map (L := (ML A)) rfl h9)⟩, fun q hq => hZ q (OA.ofD hD rfl hSz q hq)⟩⟩ rfl rfl hl.1 rfl (lv_room (Nat.le_of_ble_eq_true rfl)) dX5_undo_14 ⟨Nat.le_of_ble_eq_true rfl, Nat.le_of_ble_eq_true rfl⟩) hS (OA.ofD hD rfl hSz) (fun H locs hP hD1 hS _ _ => ?_)
    have hP : va_P D vwCl (MW A t (m_thrown' μ r2.2)) H := hP
    have hD : va_D (OA (ML A) s.heap.size) (MW A t (m_thrown' μ r2.2)) := hD1.weaken (fun _ q _ h9 => OA.ofD hD rfl hSz q.1 h9)
    have hSz : s.heap.size ≤ H.size := hS.1
    refine lv_if_ne (tgt := 22) hx hb dX5_undo_17 (by decide) (fun hc => ?_) (fun hc => ?_)
    · have h := iteF hc h
      refine lv_aload_n hx hb dX5_undo_22 rfl (lv_at hl 0 rfl) ?_
      refine lv_aload_n hx hb dX5_undo_23 rfl (lv_at hl 0 rfl) ?_
      refine va_get hx hb hts inX5 hown hK hP 0 rfl rfl 1 (by decide) (hts _ qw968) (fun _ h9 => h9) rfl dX5_undo_24 ?_
      refine lv_iconst (v := (0)) hx hb dX5_undo_27 (by decide) ?_
      obtain ⟨r3, er3, h⟩ := obind h
      refine call_M (va_runV (As := [.int (m_states μ), .int (0 : Int32)]) (rest := []) ⟨hx, hb, hml, hown, hts⟩ (c_X5_copies l z0 D t A (m_thrown' μ r2.2) (m_states μ) (0 : Int32) _ H.size er3) (kV hts qw1019 qw1021 qs33 qw9 qw1022 ok_X5_copies ⟨Nat.le_of_ble_eq_true rfl, Nat.le_of_ble_eq_true rfl⟩) ⟨PM.blind, va_recv hK hP (ci := 6) (q0 := 0) rfl rfl, fun U hU hW => ⟨rfl, by rw [hU]; exact (hC.at hS hZ).warm hW, by rw [hU], by rw [hU]; exact hP, ⟨hD.1, fun _ _ h9 => Or.inl (in_map (L := (ML A)) rfl h9)⟩, fun q hq => hZ q (OA.ofD hD rfl hSz q hq)⟩⟩ rfl rfl hl.1 rfl (lv_room (Nat.le_of_ble_eq_true rfl)) dX5_undo_28 ⟨Nat.le_of_ble_eq_true rfl, Nat.le_of_ble_eq_true rfl⟩) hS (OA.ofD hD rfl hSz) (fun H locs hP hD1 hS _ _ => ?_)
      have hP : va_P D vwCl (MW A t (m_thrown' (m_s' μ r3) r2.2)) H := hP
      have hD : va_D (OA (ML A) s.heap.size) (MW A t (m_thrown' (m_s' μ r3) r2.2)) := hD1.weaken (fun _ q _ h9 => OA.ofD hD rfl hSz q.1 h9)
      have hSz : s.heap.size ≤ H.size := hS.1
      refine lv_aload_n hx hb dX5_undo_31 rfl (lv_at hl 0 rfl) ?_
      refine lv_dup hx hb dX5_undo_32 rfl ?_
      refine va_get hx hb hts inX5 hown hK hP 0 rfl rfl 1 (by decide) (hts _ qw968) (fun _ h9 => h9) rfl dX5_undo_33 ?_
      refine lv_iconst (v := (1)) hx hb dX5_undo_36 (by decide) ?_
      refine lv_isub hx hb dX5_undo_37 ?_
      obtain ⟨x4, ex4, h⟩ := jlet_some h
      refine topI ex4 ?_
      refine va_put (D := D) (ci := 6) (v := .int x4) (ty := .int) hx hb hts inX5 tyX5 tyX5_ok nmX5 hown hK hP hD hS 0 rfl rfl 1 (by decide) (hts _ qw968) (fun _ h9 => h9) rfl (by decide +kernel) rfl rfl (Nat.le_of_ble_eq_true rfl) dX5_undo_38 (fun H locs hP hD hS => ?_)
      have hP : va_P D vwCl (MW A t (m_thrown' (m_states' (m_s' μ r3) x4) r2.2)) H := hP
      have hD : va_D (OA (ML A) s.heap.size) (MW A t (m_thrown' (m_states' (m_s' μ r3) x4) r2.2)) := hD
      have hSz : s.heap.size ≤ H.size := hS.1
      refine lv_aload_n hx hb dX5_undo_41 rfl (lv_at hl 0 rfl) ?_
      refine va_get hx hb hts inX5 hown hK hP 0 rfl rfl 1 (by decide) (hts _ qw968) (fun _ h9 => h9) rfl dX5_undo_42 ?_
      obtain rfl := Option.some.inj h
      exact W.iret hx hb hr (fun t ht hW => ⟨rfl, by rw [ht]; exact hP, hD, hS.F ht⟩) hS.2.2 dX5_undo_45
    · have h := iteT hc h
      refine lv_iconst (v := (0)) hx hb dX5_undo_20 (by decide) ?_
      obtain rfl := Option.some.inj h
      exact W.iret hx hb hr (fun t ht hW => ⟨rfl, by rw [ht]; exact hP, hD, hS.F ht⟩) hS.2.2 dX5_undo_21
  have h := eo1
  clear eo1
  refine lv_if_le (tgt := 12) hx hb dX5_undo_5 (by decide) (fun hc => ?_) (fun hc => ?_)
  · have h := iteT hc h
    refine lv_iconst (v := (0)) hx hb dX5_undo_12 (by decide) ?_
    obtain rfl := Option.some.inj h
    exact hJ13_o1 ls H locs (lv_sub hl [0] rfl) hP hD hS
  · have h := iteF hc h
    refine lv_iconst (v := (1)) hx hb dX5_undo_8 (by decide) ?_
    refine lv_goto (tgt := 13) hx hb dX5_undo_9 (by decide) ?_
    obtain rfl := Option.some.inj h
    exact hJ13_o1 ls H locs (lv_sub hl [0] rfl) hP hD hS

abbrev rm_X5_isOfTriple : Room := { frames := 1, cells := 0, slots := 0, locals := 40 }
theorem ok_X5_isOfTriple : okY yX5_isOfTriple 4 := ⟨by decide +kernel, by decide +kernel, by decide +kernel⟩
set_option maxHeartbeats 4000000 in
set_option maxRecDepth 100000 in
theorem c_X5_isOfTriple (l : Launch) (z0 : Nat) (D : va_G) (t : Nat → ClassId) (a1 : Int32) (a2 : Int32) (a3 : Int32) (a4 : Int32) (res : Int32) (h : f_X5_isOfTriple a1 a2 a3 a4 = some res) : Met l yX5_isOfTriple (ws_ yX5_isOfTriple cX5_isOfTriple 6 (some .boolean)) rm_X5_isOfTriple (PR z0 D t [.int a1, .int a2, .int a3, .int a4] []) (QR (some (.int res))) 0 0 FN := by
  refine Met.ofW (cc := cX5_isOfTriple) (maxL := 6) (ret := (some .boolean)) (by decide) rfl ?_
  intro p e s m args below meth c s₁ Bo hml hv
  obtain ⟨rfl, hC, hP⟩ := hv
  have hx := Bo.exec
  have hb := Bo.bytes
  have hr := Bo.returns
  have hts : ∀ w ∈ LA, w.before _ s = true := fun w hw => atoms_spec (ws := ws_ yX5_isOfTriple cX5_isOfTriple 6 (some .boolean)) Bo.pre w (List.mem_cons_of_mem _ hw)
  have hown : s.vm.findClass RX5 = some m.cls := findClass_of_methodNamed Bo.named
  have hlocks := Bo.notSynchronized
  have hK := hC.1
  have hl := lv_entry ([.int a1, .int a2, .int a3, .int a4]) (n := 6) (Nat.le_of_ble_eq_true rfl)
  rw [lg_entry_eq]
  generalize (lg_sl ([.int a1, .int a2, .int a3, .int a4]) ++ List.replicate (6 - (lg_sl ([.int a1, .int a2, .int a3, .int a4])).length) Slot.unset).toArray = ls at hl ⊢
  have hl : lv_has ls 6 [(0, .int a1), (1, .int a2), (2, .int a3), (3, .int a4)] := hl
  unfold f_X5_isOfTriple at h
  refine lv_iconst (v := (0)) hx hb dX5_isOfTriple_0 (by decide) ?_
  refine lv_istore (lv' := [(4, .int (0 : Int32)), (0, .int a1), (1, .int a2), (2, .int a3), (3, .int a4)]) hx hb dX5_isOfTriple_1 hl (by decide) rfl (fun ls hl => ?_)
  refine lv_iconst (v := (0)) hx hb dX5_isOfTriple_3 (by decide) ?_
  refine lv_istore (lv' := [(5, .int (0 : Int32)), (4, .int (0 : Int32)), (0, .int a1), (1, .int a2), (2, .int a3), (3, .int a4)]) hx hb dX5_isOfTriple_4 hl (by decide) rfl (fun ls hl => ?_)
  obtain ⟨o9, eo9, h⟩ := obind h
  have hL6 : ∀ (n : Nat) (y4_6 : Int32) (y5_6 : Int32) (o9 : Int32), f_X5_isOfTriple_L6 a1 a2 a3 a4 n y4_6 y5_6 = some o9 → (∀ (ls : Array Slot), lv_has ls 6 [(4, .int o9)] → W p l e (headSpec (ws_ yX5_isOfTriple cX5_isOfTriple 6 (some .boolean)) rm_X5_isOfTriple).room s m ([.int a1, .int a2, .int a3, .int a4] : List Value).toArray below meth c s.heap [] 0 0 (MQ below (QR (some (.int res))) ([.int a1, .int a2, .int a3, .int a4] : List Value).toArray s 0 0 FN) (F0 m 47 ls [])) → ∀ (ls : Array Slot), lv_has ls 6 [(0, .int a1), (1, .int a2), (2, .int a3), (3, .int a4), (4, .int y4_6), (5, .int y5_6)] → W p l e (headSpec (ws_ yX5_isOfTriple cX5_isOfTriple 6 (some .boolean)) rm_X5_isOfTriple).room s m ([.int a1, .int a2, .int a3, .int a4] : List Value).toArray below meth c s.heap [] 0 0 (MQ below (QR (some (.int res))) ([.int a1, .int a2, .int a3, .int a4] : List Value).toArray s 0 0 FN) (F0 m 6 ls []) := by
    intro n
    induction n with
    | zero => intro y4_6 y5_6 o9 h; exact absurd h (fun z => by cases z)
    | succ n ih =>
      intro y4_6 y5_6 o9 h hK6 ls hl
      replace h : f_X5_isOfTriple_L6_b a1 a2 a3 a4 (f_X5_isOfTriple_L6 a1 a2 a3 a4 n) y4_6 y5_6 = some o9 := h
      unfold f_X5_isOfTriple_L6_b at h
      refine lv_iload hx hb dX5_isOfTriple_6 (lv_at hl 5 rfl) ?_
      refine lv_iconst (v := (4)) hx hb dX5_isOfTriple_8 (by decide) ?_
      refine lv_icmp_ge (tgt := 47) hx hb dX5_isOfTriple_9 (by decide) (fun hc => ?_) (fun hc => ?_)
      · have h := iteT hc h
        obtain rfl := Option.some.inj h
        exact hK6 ls (lv_sub hl [4] rfl)
      · have h := iteF hc h
        refine lv_iload hx hb dX5_isOfTriple_12 (lv_at hl 4 rfl) ?_
        obtain ⟨o11, eo11, h⟩ := obind h
        have hJ39_o11 : ∀ ls : Array Slot, lv_has ls 6 [(0, .int a1), (1, .int a2), (2, .int a3), (3, .int a4), (5, .int y5_6)] → W p l e (headSpec (ws_ yX5_isOfTriple cX5_isOfTriple 6 (some .boolean)) rm_X5_isOfTriple).room s m ([.int a1, .int a2, .int a3, .int a4] : List Value).toArray below meth c s.heap [] 0 0 (MQ below (QR (some (.int res))) ([.int a1, .int a2, .int a3, .int a4] : List Value).toArray s 0 0 FN) (F0 m 39 ls [.int o11]) := by
          intro ls hl
          refine lv_istore (lv' := [(4, .int o11), (0, .int a1), (1, .int a2), (2, .int a3), (3, .int a4), (5, .int y5_6)]) hx hb dX5_isOfTriple_39 hl (by decide) rfl (fun ls hl => ?_)
          obtain ⟨x13, ex13, h⟩ := jlet_some h
          refine lv_iinc (v := x13) (lv' := [(5, .int x13), (4, .int o11), (0, .int a1), (1, .int a2), (2, .int a3), (3, .int a4)]) hx hb dX5_isOfTriple_41 hl (k := 5) rfl (by rw [ex13]; rfl) (by decide) rfl (fun ls hl => ?_)
          refine lv_goto (tgt := 6) hx hb dX5_isOfTriple_44 (by decide) ?_
          exact ih _ _ _ h hK6 ls (lv_sub hl [2, 3, 4, 5, 1, 0] rfl)
        have h := eo11
        clear eo11
        refine lv_if_ne (tgt := 34) hx hb dX5_isOfTriple_14 (by decide) (fun hc => ?_) (fun hc => ?_)
        · have h := iteF hc h
          refine lv_iconst (v := (1)) hx hb dX5_isOfTriple_34 (by decide) ?_
          refine lv_goto (tgt := 39) hx hb dX5_isOfTriple_35 (by decide) ?_
          obtain rfl := Option.some.inj h
          exact hJ39_o11 ls (lv_sub hl [0, 1, 2, 3, 5] rfl)
        · have h := iteT hc h
          refine lv_iload hx hb dX5_isOfTriple_17 (lv_at hl 5 rfl) ?_
          refine lv_iload_n hx hb dX5_isOfTriple_19 rfl (lv_at hl 2 rfl) ?_
          refine lv_icmp_eq (tgt := 38) hx hb dX5_isOfTriple_20 (by decide) (fun hc => ?_) (fun hc => ?_)
          · have h := iteT hc h
            refine lv_iconst (v := (0)) hx hb dX5_isOfTriple_38 (by decide) ?_
            obtain rfl := Option.some.inj h
            exact hJ39_o11 ls (lv_sub hl [0, 1, 2, 3, 5] rfl)
          · have h := iteF hc h
            refine lv_iload_n hx hb dX5_isOfTriple_23 rfl (lv_at hl 0 rfl) ?_
            refine lv_iload_n hx hb dX5_isOfTriple_24 rfl (lv_at hl 1 rfl) ?_
            refine lv_iload hx hb dX5_isOfTriple_25 (lv_at hl 5 rfl) ?_
            obtain ⟨r12, er12, h⟩ := obind h
            refine call_R (va_runS (As := [.int a1, .int a2, .int y5_6]) (rest := []) ⟨hx, hb, hml, hown, hts⟩ (c_X5_ofBlock l z0 D t a1 a2 y5_6 _ er12) (kS hts qw1047 qw1048 qw9 qw1049 ok_X5_ofBlock ⟨Nat.le_of_ble_eq_true rfl, Nat.le_of_ble_eq_true rfl⟩) ⟨PR.blind, fun U hU hW => ⟨rfl, by rw [hU]; exact hC.warm hW, by rw [hU]; exact va_P_nil⟩⟩ rfl rfl hl.1 rfl (lv_room (Nat.le_of_ble_eq_true rfl)) dX5_isOfTriple_27 ⟨Nat.le_of_ble_eq_true rfl, Nat.le_of_ble_eq_true rfl⟩) ?_
            refine lv_iload_n hx hb dX5_isOfTriple_30 rfl (lv_at hl 3 rfl) ?_
            refine lv_icmp_ne (tgt := 38) hx hb dX5_isOfTriple_31 (by decide) (fun hc => ?_) (fun hc => ?_)
            · have h := iteF hc h
              refine lv_iconst (v := (0)) hx hb dX5_isOfTriple_38 (by decide) ?_
              obtain rfl := Option.some.inj h
              exact hJ39_o11 ls (lv_sub hl [0, 1, 2, 3, 5] rfl)
            · have h := iteT hc h
              refine lv_iconst (v := (1)) hx hb dX5_isOfTriple_34 (by decide) ?_
              refine lv_goto (tgt := 39) hx hb dX5_isOfTriple_35 (by decide) ?_
              obtain rfl := Option.some.inj h
              exact hJ39_o11 ls (lv_sub hl [0, 1, 2, 3, 5] rfl)
  refine hL6 _ _ _ _ eo9 (fun ls hl => ?_) ls (lv_sub hl [2, 3, 4, 5, 1, 0] rfl)
  refine lv_iload hx hb dX5_isOfTriple_47 (lv_at hl 0 rfl) ?_
  obtain ⟨z14, ez14, h⟩ := obind h
  refine topI (jz_some ez14).1 ?_
  obtain rfl := Option.some.inj h
  exact W.zret hx hb hr (jz_some ez14).2 (fun t ht hW => ⟨rfl, ht⟩) (fun q hq => absurd hq List.not_mem_nil) dX5_isOfTriple_49

abbrev rm_X5_could : Room := { frames := 2, cells := 0, slots := 0, locals := 68 }
theorem ok_X5_could : okY yX5_could 2 := ⟨by decide +kernel, by decide +kernel, by decide +kernel⟩
set_option maxHeartbeats 4000000 in
set_option maxRecDepth 100000 in
theorem c_X5_could (l : Launch) (z0 : Nat) (D : va_G) (t : Nat → ClassId) (A : Nat → Nat) (μ : MS) (a1 : Int32) (a2 : Int32) (res : Int32) (h : f_X5_could μ a1 a2 = some res) : Met l yX5_could (ws_ yX5_could cX5_could 8 (some .int)) rm_X5_could (PR z0 D t [.ref (A 0), .int a1, .int a2] (MW A t μ)) (QR (some (.int res))) 0 0 FN := by
  refine Met.ofW (cc := cX5_could) (maxL := 8) (ret := (some .int)) (by decide) rfl ?_
  intro p e s m args below meth c s₁ Bo hml hv
  obtain ⟨rfl, hC, hP⟩ := hv
  have hx := Bo.exec
  have hb := Bo.bytes
  have hr := Bo.returns
  have hts : ∀ w ∈ LA, w.before _ s = true := fun w hw => atoms_spec (ws := ws_ yX5_could cX5_could 8 (some .int)) Bo.pre w (List.mem_cons_of_mem _ hw)
  have hown : s.vm.findClass RX5 = some m.cls := findClass_of_methodNamed Bo.named
  have hlocks := Bo.notSynchronized
  have hK := hC.1
  have hl := lv_entry ([.ref (A 0), .int a1, .int a2]) (n := 8) (Nat.le_of_ble_eq_true rfl)
  rw [lg_entry_eq]
  generalize (lg_sl ([.ref (A 0), .int a1, .int a2]) ++ List.replicate (8 - (lg_sl ([.ref (A 0), .int a1, .int a2])).length) Slot.unset).toArray = ls at hl ⊢
  have hl : lv_has ls 8 [(0, .ref (A 0)), (1, .int a1), (2, .int a2)] := hl
  unfold f_X5_could at h
  refine lv_iconst (v := (0)) hx hb dX5_could_0 (by decide) ?_
  refine lv_istore_n (lv' := [(3, .int (0 : Int32)), (0, .ref (A 0)), (1, .int a1), (2, .int a2)]) hx hb dX5_could_1 rfl hl (by decide) rfl (fun ls hl => ?_)
  refine lv_iconst (v := (-1)) hx hb dX5_could_2 (by decide) ?_
  refine lv_istore (lv' := [(4, .int (-1 : Int32)), (3, .int (0 : Int32)), (0, .ref (A 0)), (1, .int a1), (2, .int a2)]) hx hb dX5_could_3 hl (by decide) rfl (fun ls hl => ?_)
  refine lv_iconst (v := (0)) hx hb dX5_could_5 (by decide) ?_
  refine lv_istore (lv' := [(5, .int (0 : Int32)), (4, .int (-1 : Int32)), (3, .int (0 : Int32)), (0, .ref (A 0)), (1, .int a1), (2, .int a2)]) hx hb dX5_could_6 hl (by decide) rfl (fun ls hl => ?_)
  obtain ⟨o259, eo259, h⟩ := obind h
  have hL8 : ∀ (n : Nat) (y3_8 : Int32) (y4_8 : Int32) (y5_8 : Int32) (o259 : Int32 × Int32), f_X5_could_L8 a1 μ n y3_8 y4_8 y5_8 = some o259 → (∀ (ls : Array Slot), lv_has ls 8 [(2, .int a2), (3, .int o259.1), (4, .int o259.2)] → W p l e (headSpec (ws_ yX5_could cX5_could 8 (some .int)) rm_X5_could).room s m ([.ref (A 0), .int a1, .int a2] : List Value).toArray below meth c s.heap [] 0 0 (MQ below (QR (some (.int res))) ([.ref (A 0), .int a1, .int a2] : List Value).toArray s 0 0 FN) (F0 m 114 ls [])) → ∀ (ls : Array Slot), lv_has ls 8 [(0, .ref (A 0)), (1, .int a1), (2, .int a2), (3, .int y3_8), (4, .int y4_8), (5, .int y5_8)] → W p l e (headSpec (ws_ yX5_could cX5_could 8 (some .int)) rm_X5_could).room s m ([.ref (A 0), .int a1, .int a2] : List Value).toArray below meth c s.heap [] 0 0 (MQ below (QR (some (.int res))) ([.ref (A 0), .int a1, .int a2] : List Value).toArray s 0 0 FN) (F0 m 8 ls []) := by
    intro n
    induction n with
    | zero => intro y3_8 y4_8 y5_8 o259 h; exact absurd h (fun z => by cases z)
    | succ n ih =>
      intro y3_8 y4_8 y5_8 o259 h hK8 ls hl
      replace h : f_X5_could_L8_b a1 μ (f_X5_could_L8 a1 μ n) y3_8 y4_8 y5_8 = some o259 := h
      unfold f_X5_could_L8_b at h
      refine lv_iload hx hb dX5_could_8 (lv_at hl 5 rfl) ?_
      refine lv_aload_n hx hb dX5_could_10 rfl (lv_at hl 0 rfl) ?_
      refine va_get hx hb hts inX5 hown hK hP 0 rfl rfl 0 (by decide) (hts _ qw967) (fun _ h9 => h9) rfl dX5_could_11 ?_
      refine lv_iconst (v := (1)) hx hb dX5_could_14 (by decide) ?_
      obtain ⟨v260, ev260, h⟩ := obind h
      refine k_iald hx hb hK hP 1 rfl ev260 dX5_could_15 ?_
      refine lv_iconst (v := (1)) hx hb dX5_could_16 (by decide) ?_
      refine lv_isub hx hb dX5_could_17 ?_
      refine lv_icmp_ge (tgt := 114) hx hb dX5_could_18 (by decide) (fun hc => ?_) (fun hc => ?_)
      · have h := iteT hc h
        obtain rfl := Option.some.inj h
        exact hK8 ls (lv_sub hl [2, 3, 4] rfl)
      · have h := iteF hc h
        refine lv_iconst (v := (0)) hx hb dX5_could_21 (by decide) ?_
        refine lv_istore (lv' := [(6, .int (0 : Int32)), (0, .ref (A 0)), (1, .int a1), (2, .int a2), (3, .int y3_8), (4, .int y4_8), (5, .int y5_8)]) hx hb dX5_could_22 hl (by decide) rfl (fun ls hl => ?_)
        obtain ⟨o345, eo345, h⟩ := obind h
        have hL24 : ∀ (n : Nat) (y3_24 : Int32) (y4_24 : Int32) (y6_24 : Int32) (o345 : Int32 × Int32), f_X5_could_L24 a1 μ y5_8 n y3_24 y4_24 y6_24 = some o345 → (∀ (ls : Array Slot), lv_has ls 8 [(0, .ref (A 0)), (1, .int a1), (2, .int a2), (3, .int o345.1), (4, .int o345.2), (5, .int y5_8)] → W p l e (headSpec (ws_ yX5_could cX5_could 8 (some .int)) rm_X5_could).room s m ([.ref (A 0), .int a1, .int a2] : List Value).toArray below meth c s.heap [] 0 0 (MQ below (QR (some (.int res))) ([.ref (A 0), .int a1, .int a2] : List Value).toArray s 0 0 FN) (F0 m 108 ls [])) → ∀ (ls : Array Slot), lv_has ls 8 [(0, .ref (A 0)), (1, .int a1), (2, .int a2), (3, .int y3_24), (4, .int y4_24), (5, .int y5_8), (6, .int y6_24)] → W p l e (headSpec (ws_ yX5_could cX5_could 8 (some .int)) rm_X5_could).room s m ([.ref (A 0), .int a1, .int a2] : List Value).toArray below meth c s.heap [] 0 0 (MQ below (QR (some (.int res))) ([.ref (A 0), .int a1, .int a2] : List Value).toArray s 0 0 FN) (F0 m 24 ls []) := by
          intro n
          induction n with
          | zero => intro y3_24 y4_24 y6_24 o345 h; exact absurd h (fun z => by cases z)
          | succ n ih =>
            intro y3_24 y4_24 y6_24 o345 h hK24 ls hl
            replace h : f_X5_could_L24_b a1 μ y5_8 (f_X5_could_L24 a1 μ y5_8 n) y3_24 y4_24 y6_24 = some o345 := h
            unfold f_X5_could_L24_b at h
            refine lv_iload hx hb dX5_could_24 (lv_at hl 6 rfl) ?_
            refine lv_aload_n hx hb dX5_could_26 rfl (lv_at hl 0 rfl) ?_
            refine va_get hx hb hts inX5 hown hK hP 0 rfl rfl 0 (by decide) (hts _ qw967) (fun _ h9 => h9) rfl dX5_could_27 ?_
            refine lv_iconst (v := (0)) hx hb dX5_could_30 (by decide) ?_
            obtain ⟨v346, ev346, h⟩ := obind h
            refine k_iald hx hb hK hP 1 rfl ev346 dX5_could_31 ?_
            refine lv_iconst (v := (1)) hx hb dX5_could_32 (by decide) ?_
            refine lv_isub hx hb dX5_could_33 ?_
            refine lv_icmp_ge (tgt := 108) hx hb dX5_could_34 (by decide) (fun hc => ?_) (fun hc => ?_)
            · have h := iteT hc h
              obtain rfl := Option.some.inj h
              exact hK24 ls (lv_sub hl [0, 1, 2, 3, 4, 5] rfl)
            · have h := iteF hc h
              refine lv_iconst (v := (0)) hx hb dX5_could_37 (by decide) ?_
              refine lv_istore (lv' := [(7, .int (0 : Int32)), (0, .ref (A 0)), (1, .int a1), (2, .int a2), (3, .int y3_24), (4, .int y4_24), (5, .int y5_8), (6, .int y6_24)]) hx hb dX5_could_38 hl (by decide) rfl (fun ls hl => ?_)
              obtain ⟨o373, eo373, h⟩ := obind h
              have hL40 : ∀ (n : Nat) (y3_40 : Int32) (y4_40 : Int32) (y7_40 : Int32) (o373 : Int32 × Int32), f_X5_could_L40 a1 μ y6_24 y5_8 n y3_40 y4_40 y7_40 = some o373 → (∀ (ls : Array Slot), lv_has ls 8 [(0, .ref (A 0)), (1, .int a1), (2, .int a2), (3, .int o373.1), (4, .int o373.2), (5, .int y5_8), (6, .int y6_24)] → W p l e (headSpec (ws_ yX5_could cX5_could 8 (some .int)) rm_X5_could).room s m ([.ref (A 0), .int a1, .int a2] : List Value).toArray below meth c s.heap [] 0 0 (MQ below (QR (some (.int res))) ([.ref (A 0), .int a1, .int a2] : List Value).toArray s 0 0 FN) (F0 m 102 ls [])) → ∀ (ls : Array Slot), lv_has ls 8 [(0, .ref (A 0)), (1, .int a1), (2, .int a2), (3, .int y3_40), (4, .int y4_40), (5, .int y5_8), (6, .int y6_24), (7, .int y7_40)] → W p l e (headSpec (ws_ yX5_could cX5_could 8 (some .int)) rm_X5_could).room s m ([.ref (A 0), .int a1, .int a2] : List Value).toArray below meth c s.heap [] 0 0 (MQ below (QR (some (.int res))) ([.ref (A 0), .int a1, .int a2] : List Value).toArray s 0 0 FN) (F0 m 40 ls []) := by
                intro n
                induction n with
                | zero => intro y3_40 y4_40 y7_40 o373 h; exact absurd h (fun z => by cases z)
                | succ n ih =>
                  intro y3_40 y4_40 y7_40 o373 h hK40 ls hl
                  replace h : f_X5_could_L40_b a1 μ y6_24 y5_8 (f_X5_could_L40 a1 μ y6_24 y5_8 n) y3_40 y4_40 y7_40 = some o373 := h
                  unfold f_X5_could_L40_b at h
                  refine lv_iload hx hb dX5_could_40 (lv_at hl 7 rfl) ?_
                  refine lv_iconst (v := (4)) hx hb dX5_could_42 (by decide) ?_
                  refine lv_icmp_ge (tgt := 102) hx hb dX5_could_43 (by decide) (fun hc => ?_) (fun hc => ?_)
                  · have h := iteT hc h
                    obtain rfl := Option.some.inj h
                    exact hK40 ls (lv_sub hl [0, 1, 2, 3, 4, 5, 6] rfl)
                  · have h := iteF hc h
                    refine lv_aload_n hx hb dX5_could_46 rfl (lv_at hl 0 rfl) ?_
                    refine lv_iconst (v := (0)) hx hb dX5_could_47 (by decide) ?_
                    refine lv_iload hx hb dX5_could_48 (lv_at hl 6 rfl) ?_
                    refine lv_iload hx hb dX5_could_50 (lv_at hl 5 rfl) ?_
                    refine lv_iload hx hb dX5_could_52 (lv_at hl 7 rfl) ?_
                    obtain ⟨r374, er374, h⟩ := obind h
                    refine call_R (va_runV (As := [.int (0 : Int32), .int y6_24, .int y5_8, .int y7_40]) (rest := []) ⟨hx, hb, hml, hown, hts⟩ (c_X5_wrong l z0 D t A μ (0 : Int32) y6_24 y5_8 y7_40 _ er374) (kV hts qw1043 qw1045 qs36 qw9 qw1046 ok_X5_wrong ⟨Nat.le_of_ble_eq_true rfl, Nat.le_of_ble_eq_true rfl⟩) ⟨PR.blind, va_recv hK hP (ci := 6) (q0 := 0) rfl rfl, fun U hU hW => ⟨rfl, by rw [hU]; exact hC.warm hW, by rw [hU]; exact hP⟩⟩ rfl rfl hl.1 rfl (lv_room (Nat.le_of_ble_eq_true rfl)) dX5_could_54 ⟨Nat.le_of_ble_eq_true rfl, Nat.le_of_ble_eq_true rfl⟩) ?_
                    obtain ⟨o380, eo380, h⟩ := obind h
                    have hJ96_o380 : ∀ ls : Array Slot, lv_has ls 8 [(0, .ref (A 0)), (1, .int a1), (2, .int a2), (3, .int o380.1), (4, .int o380.2), (5, .int y5_8), (6, .int y6_24), (7, .int y7_40)] → W p l e (headSpec (ws_ yX5_could cX5_could 8 (some .int)) rm_X5_could).room s m ([.ref (A 0), .int a1, .int a2] : List Value).toArray below meth c s.heap [] 0 0 (MQ below (QR (some (.int res))) ([.ref (A 0), .int a1, .int a2] : List Value).toArray s 0 0 FN) (F0 m 96 ls []) := by
                      intro ls hl
                      obtain ⟨x386, ex386, h⟩ := jlet_some h
                      refine lv_iinc (v := x386) (lv' := [(7, .int x386), (0, .ref (A 0)), (1, .int a1), (2, .int a2), (3, .int o380.1), (4, .int o380.2), (5, .int y5_8), (6, .int y6_24)]) hx hb dX5_could_96 hl (k := 7) rfl (by rw [ex386]; rfl) (by decide) rfl (fun ls hl => ?_)
                      refine lv_goto (tgt := 40) hx hb dX5_could_99 (by decide) ?_
                      exact ih _ _ _ _ h hK40 ls (lv_sub hl [1, 2, 3, 4, 5, 6, 7, 0] rfl)
                    have h := eo380
                    clear eo380
                    refine lv_if_ne (tgt := 96) hx hb dX5_could_57 (by decide) (fun hc => ?_) (fun hc => ?_)
                    · have h := iteF hc h
                      obtain rfl := Option.some.inj h
                      exact hJ96_o380 ls (lv_sub hl [0, 1, 2, 3, 4, 5, 6, 7] rfl)
                    · have h := iteT hc h
                      refine lv_iload_n hx hb dX5_could_60 rfl (lv_at hl 1 rfl) ?_
                      refine lv_if_lt (tgt := 77) hx hb dX5_could_61 (by decide) (fun hc => ?_) (fun hc => ?_)
                      · have h := iteT hc h
                        obtain ⟨x381, ex381, h⟩ := jlet_some h
                        refine lv_iinc (v := x381) (lv' := [(3, .int x381), (0, .ref (A 0)), (1, .int a1), (2, .int a2), (4, .int y4_40), (5, .int y5_8), (6, .int y6_24), (7, .int y7_40)]) hx hb dX5_could_77 hl (k := 3) rfl (by rw [ex381]; rfl) (by decide) rfl (fun ls hl => ?_)
                        refine lv_iload hx hb dX5_could_80 (lv_at hl 6 rfl) ?_
                        refine lv_bipush (v := (10)) hx hb dX5_could_82 (by decide) ?_
                        refine lv_iload hx hb dX5_could_84 (lv_at hl 5 rfl) ?_
                        refine lv_imul hx hb dX5_could_86 ?_
                        refine lv_iadd hx hb dX5_could_87 ?_
                        refine lv_bipush (v := (100)) hx hb dX5_could_88 (by decide) ?_
                        refine lv_iload hx hb dX5_could_90 (lv_at hl 7 rfl) ?_
                        refine lv_imul hx hb dX5_could_92 ?_
                        refine lv_iadd hx hb dX5_could_93 ?_
                        obtain ⟨x382, ex382, h⟩ := jlet_some h
                        refine topI ex382 ?_
                        refine lv_istore (lv' := [(4, .int x382), (3, .int x381), (0, .ref (A 0)), (1, .int a1), (2, .int a2), (5, .int y5_8), (6, .int y6_24), (7, .int y7_40)]) hx hb dX5_could_94 hl (by decide) rfl (fun ls hl => ?_)
                        obtain rfl := Option.some.inj h
                        exact hJ96_o380 ls (lv_sub hl [2, 3, 4, 1, 0, 5, 6, 7] rfl)
                      · have h := iteF hc h
                        refine lv_iload hx hb dX5_could_64 (lv_at hl 6 rfl) ?_
                        refine lv_iload hx hb dX5_could_66 (lv_at hl 5 rfl) ?_
                        refine lv_iload hx hb dX5_could_68 (lv_at hl 7 rfl) ?_
                        refine lv_iload_n hx hb dX5_could_70 rfl (lv_at hl 1 rfl) ?_
                        obtain ⟨r383, er383, h⟩ := obind h
                        refine call_R (va_runS (As := [.int y6_24, .int y5_8, .int y7_40, .int a1]) (rest := []) ⟨hx, hb, hml, hown, hts⟩ (c_X5_isOfTriple l z0 D t y6_24 y5_8 y7_40 a1 _ er383) (kS hts qw1166 qw1167 qw9 qw1168 ok_X5_isOfTriple ⟨Nat.le_of_ble_eq_true rfl, Nat.le_of_ble_eq_true rfl⟩) ⟨PR.blind, fun U hU hW => ⟨rfl, by rw [hU]; exact hC.warm hW, by rw [hU]; exact va_P_nil⟩⟩ rfl rfl hl.1 rfl (lv_room (Nat.le_of_ble_eq_true rfl)) dX5_could_71 ⟨Nat.le_of_ble_eq_true rfl, Nat.le_of_ble_eq_true rfl⟩) ?_
                        refine lv_if_eq (tgt := 96) hx hb dX5_could_74 (by decide) (fun hc => ?_) (fun hc => ?_)
                        · have h := iteT hc h
                          obtain rfl := Option.some.inj h
                          exact hJ96_o380 ls (lv_sub hl [0, 1, 2, 3, 4, 5, 6, 7] rfl)
                        · have h := iteF hc h
                          obtain ⟨x384, ex384, h⟩ := jlet_some h
                          refine lv_iinc (v := x384) (lv' := [(3, .int x384), (0, .ref (A 0)), (1, .int a1), (2, .int a2), (4, .int y4_40), (5, .int y5_8), (6, .int y6_24), (7, .int y7_40)]) hx hb dX5_could_77 hl (k := 3) rfl (by rw [ex384]; rfl) (by decide) rfl (fun ls hl => ?_)
                          refine lv_iload hx hb dX5_could_80 (lv_at hl 6 rfl) ?_
                          refine lv_bipush (v := (10)) hx hb dX5_could_82 (by decide) ?_
                          refine lv_iload hx hb dX5_could_84 (lv_at hl 5 rfl) ?_
                          refine lv_imul hx hb dX5_could_86 ?_
                          refine lv_iadd hx hb dX5_could_87 ?_
                          refine lv_bipush (v := (100)) hx hb dX5_could_88 (by decide) ?_
                          refine lv_iload hx hb dX5_could_90 (lv_at hl 7 rfl) ?_
                          refine lv_imul hx hb dX5_could_92 ?_
                          refine lv_iadd hx hb dX5_could_93 ?_
                          obtain ⟨x385, ex385, h⟩ := jlet_some h
                          refine topI ex385 ?_
                          refine lv_istore (lv' := [(4, .int x385), (3, .int x384), (0, .ref (A 0)), (1, .int a1), (2, .int a2), (5, .int y5_8), (6, .int y6_24), (7, .int y7_40)]) hx hb dX5_could_94 hl (by decide) rfl (fun ls hl => ?_)
                          obtain rfl := Option.some.inj h
                          exact hJ96_o380 ls (lv_sub hl [2, 3, 4, 1, 0, 5, 6, 7] rfl)
              refine hL40 _ _ _ _ _ eo373 (fun ls hl => ?_) ls (lv_sub hl [1, 2, 3, 4, 5, 6, 7, 0] rfl)
              obtain ⟨x387, ex387, h⟩ := jlet_some h
              refine lv_iinc (v := x387) (lv' := [(6, .int x387), (0, .ref (A 0)), (1, .int a1), (2, .int a2), (3, .int o373.1), (4, .int o373.2), (5, .int y5_8)]) hx hb dX5_could_102 hl (k := 6) rfl (by rw [ex387]; rfl) (by decide) rfl (fun ls hl => ?_)
              refine lv_goto (tgt := 24) hx hb dX5_could_105 (by decide) ?_
              exact ih _ _ _ _ h hK24 ls (lv_sub hl [1, 2, 3, 4, 5, 6, 0] rfl)
        refine hL24 _ _ _ _ _ eo345 (fun ls hl => ?_) ls (lv_sub hl [1, 2, 3, 4, 5, 6, 0] rfl)
        obtain ⟨x388, ex388, h⟩ := jlet_some h
        refine lv_iinc (v := x388) (lv' := [(5, .int x388), (0, .ref (A 0)), (1, .int a1), (2, .int a2), (3, .int o345.1), (4, .int o345.2)]) hx hb dX5_could_108 hl (k := 5) rfl (by rw [ex388]; rfl) (by decide) rfl (fun ls hl => ?_)
        refine lv_goto (tgt := 8) hx hb dX5_could_111 (by decide) ?_
        exact ih _ _ _ _ h hK8 ls (lv_sub hl [1, 2, 3, 4, 5, 0] rfl)
  refine hL8 _ _ _ _ _ eo259 (fun ls hl => ?_) ls (lv_sub hl [3, 4, 5, 2, 1, 0] rfl)
  refine lv_iload_n hx hb dX5_could_114 rfl (lv_at hl 0 rfl) ?_
  refine lv_if_eq (tgt := 123) hx hb dX5_could_115 (by decide) (fun hc => ?_) (fun hc => ?_)
  · have h := iteT hc h
    refine lv_iload_n hx hb dX5_could_123 rfl (lv_at hl 1 rfl) ?_
    obtain rfl := Option.some.inj h
    exact W.iret hx hb hr (fun t ht hW => ⟨rfl, ht⟩) (fun q hq => absurd hq List.not_mem_nil) dX5_could_124
  · have h := iteF hc h
    refine lv_iload hx hb dX5_could_118 (lv_at hl 2 rfl) ?_
    refine lv_goto (tgt := 124) hx hb dX5_could_120 (by decide) ?_
    obtain rfl := Option.some.inj h
    exact W.iret hx hb hr (fun t ht hW => ⟨rfl, ht⟩) (fun q hq => absurd hq List.not_mem_nil) dX5_could_124

abbrev rm_X5_cells : Room := { frames := 3, cells := 0, slots := 0, locals := 95 }
theorem ok_X5_cells : okY yX5_cells 2 := ⟨by decide +kernel, by decide +kernel, by decide +kernel⟩
set_option maxHeartbeats 4000000 in
set_option maxRecDepth 100000 in
theorem c_X5_cells (l : Launch) (z0 : Nat) (D : va_G) (t : Nat → ClassId) (A : Nat → Nat) (μ : MS) (a1 : Int32) (a2 : Int32) (res : Int32) (h : f_X5_cells μ a1 a2 = some res) : Met l yX5_cells (ws_ yX5_cells cX5_cells 3 (some .int)) rm_X5_cells (PR z0 D t [.ref (A 0), .int a1, .int a2] (MW A t μ)) (QR (some (.int res))) 0 0 FN := by
  refine Met.ofW (cc := cX5_cells) (maxL := 3) (ret := (some .int)) (by decide) rfl ?_
  intro p e s m args below meth c s₁ Bo hml hv
  obtain ⟨rfl, hC, hP⟩ := hv
  have hx := Bo.exec
  have hb := Bo.bytes
  have hr := Bo.returns
  have hts : ∀ w ∈ LA, w.before _ s = true := fun w hw => atoms_spec (ws := ws_ yX5_cells cX5_cells 3 (some .int)) Bo.pre w (List.mem_cons_of_mem _ hw)
  have hown : s.vm.findClass RX5 = some m.cls := findClass_of_methodNamed Bo.named
  have hlocks := Bo.notSynchronized
  have hK := hC.1
  have hl := lv_entry ([.ref (A 0), .int a1, .int a2]) (n := 3) (Nat.le_of_ble_eq_true rfl)
  rw [lg_entry_eq]
  generalize (lg_sl ([.ref (A 0), .int a1, .int a2]) ++ List.replicate (3 - (lg_sl ([.ref (A 0), .int a1, .int a2])).length) Slot.unset).toArray = ls at hl ⊢
  have hl : lv_has ls 3 [(0, .ref (A 0)), (1, .int a1), (2, .int a2)] := hl
  unfold f_X5_cells at h
  refine lv_iload_n hx hb dX5_cells_0 rfl (lv_at hl 2 rfl) ?_
  refine lv_if_ne (tgt := 52) hx hb dX5_cells_1 (by decide) (fun hc => ?_) (fun hc => ?_)
  · have h := iteF hc h
    refine lv_iload_n hx hb dX5_cells_52 rfl (lv_at hl 2 rfl) ?_
    refine lv_iconst (v := (1)) hx hb dX5_cells_53 (by decide) ?_
    refine lv_icmp_ne (tgt := 69) hx hb dX5_cells_54 (by decide) (fun hc => ?_) (fun hc => ?_)
    · have h := iteF hc h
      refine lv_aload_n hx hb dX5_cells_69 rfl (lv_at hl 0 rfl) ?_
      refine lv_iload_n hx hb dX5_cells_70 rfl (lv_at hl 1 rfl) ?_
      refine lv_iconst (v := (0)) hx hb dX5_cells_71 (by decide) ?_
      obtain ⟨r1, er1, h⟩ := obind h
      refine call_R (va_runV (As := [.int a1, .int (0 : Int32)]) (rest := []) ⟨hx, hb, hml, hown, hts⟩ (c_X5_could l z0 D t A μ a1 (0 : Int32) _ er1) (kV hts qw1162 qw1164 qs53 qw9 qw1165 ok_X5_could ⟨Nat.le_of_ble_eq_true rfl, Nat.le_of_ble_eq_true rfl⟩) ⟨PR.blind, va_recv hK hP (ci := 6) (q0 := 0) rfl rfl, fun U hU hW => ⟨rfl, by rw [hU]; exact hC.warm hW, by rw [hU]; exact hP⟩⟩ rfl rfl hl.1 rfl (lv_room (Nat.le_of_ble_eq_true rfl)) dX5_cells_72 ⟨Nat.le_of_ble_eq_true rfl, Nat.le_of_ble_eq_true rfl⟩) ?_
      obtain rfl := Option.some.inj h
      exact W.iret hx hb hr (fun t ht hW => ⟨rfl, ht⟩) (fun q hq => absurd hq List.not_mem_nil) dX5_cells_75
    · have h := iteT hc h
      refine lv_aload_n hx hb dX5_cells_57 rfl (lv_at hl 0 rfl) ?_
      refine va_get hx hb hts inX5 hown hK hP 0 rfl rfl 0 (by decide) (hts _ qw967) (fun _ h9 => h9) rfl dX5_cells_58 ?_
      refine lv_bipush (v := (67)) hx hb dX5_cells_61 (by decide) ?_
      refine lv_iload_n hx hb dX5_cells_63 rfl (lv_at hl 1 rfl) ?_
      refine lv_iadd hx hb dX5_cells_64 ?_
      obtain ⟨v2, ev2, h⟩ := obind h
      refine k_iald hx hb hK hP 1 rfl ev2 dX5_cells_65 ?_
      refine lv_goto (tgt := 75) hx hb dX5_cells_66 (by decide) ?_
      obtain rfl := Option.some.inj h
      exact W.iret hx hb hr (fun t ht hW => ⟨rfl, ht⟩) (fun q hq => absurd hq List.not_mem_nil) dX5_cells_75
  · have h := iteT hc h
    refine lv_iload_n hx hb dX5_cells_4 rfl (lv_at hl 1 rfl) ?_
    refine lv_aload_n hx hb dX5_cells_5 rfl (lv_at hl 0 rfl) ?_
    refine va_get hx hb hts inX5 hown hK hP 0 rfl rfl 0 (by decide) (hts _ qw967) (fun _ h9 => h9) rfl dX5_cells_6 ?_
    refine lv_iconst (v := (2)) hx hb dX5_cells_9 (by decide) ?_
    obtain ⟨v3, ev3, h⟩ := obind h
    refine k_iald hx hb hK hP 1 rfl ev3 dX5_cells_10 ?_
    refine lv_icmp_ne (tgt := 18) hx hb dX5_cells_11 (by decide) (fun hc => ?_) (fun hc => ?_)
    · have h := iteF hc h
      refine lv_aload_n hx hb dX5_cells_18 rfl (lv_at hl 0 rfl) ?_
      refine va_get hx hb hts inX5 hown hK hP 0 rfl rfl 0 (by decide) (hts _ qw967) (fun _ h9 => h9) rfl dX5_cells_19 ?_
      refine lv_iconst (v := (3)) hx hb dX5_cells_22 (by decide) ?_
      refine lv_iload_n hx hb dX5_cells_23 rfl (lv_at hl 1 rfl) ?_
      refine lv_iadd hx hb dX5_cells_24 ?_
      obtain ⟨v4, ev4, h⟩ := obind h
      refine k_iald hx hb hK hP 1 rfl ev4 dX5_cells_25 ?_
      refine lv_iconst (v := (1)) hx hb dX5_cells_26 (by decide) ?_
      refine lv_icmp_ne (tgt := 34) hx hb dX5_cells_27 (by decide) (fun hc => ?_) (fun hc => ?_)
      · have h := iteF hc h
        refine lv_aload_n hx hb dX5_cells_34 rfl (lv_at hl 0 rfl) ?_
        refine va_get hx hb hts inX5 hown hK hP 0 rfl rfl 0 (by decide) (hts _ qw967) (fun _ h9 => h9) rfl dX5_cells_35 ?_
        refine lv_bipush (v := (67)) hx hb dX5_cells_38 (by decide) ?_
        refine lv_iload_n hx hb dX5_cells_40 rfl (lv_at hl 1 rfl) ?_
        refine lv_iadd hx hb dX5_cells_41 ?_
        obtain ⟨v5, ev5, h⟩ := obind h
        refine k_iald hx hb hK hP 1 rfl ev5 dX5_cells_42 ?_
        refine lv_if_lt (tgt := 50) hx hb dX5_cells_43 (by decide) (fun hc => ?_) (fun hc => ?_)
        · have h := iteT hc h
          refine lv_iconst (v := (0)) hx hb dX5_cells_50 (by decide) ?_
          obtain rfl := Option.some.inj h
          exact W.iret hx hb hr (fun t ht hW => ⟨rfl, ht⟩) (fun q hq => absurd hq List.not_mem_nil) dX5_cells_51
        · have h := iteF hc h
          refine lv_iconst (v := (3)) hx hb dX5_cells_46 (by decide) ?_
          refine lv_goto (tgt := 51) hx hb dX5_cells_47 (by decide) ?_
          obtain rfl := Option.some.inj h
          exact W.iret hx hb hr (fun t ht hW => ⟨rfl, ht⟩) (fun q hq => absurd hq List.not_mem_nil) dX5_cells_51
      · have h := iteT hc h
        refine lv_iconst (v := (2)) hx hb dX5_cells_30 (by decide) ?_
        refine lv_goto (tgt := 51) hx hb dX5_cells_31 (by decide) ?_
        obtain rfl := Option.some.inj h
        exact W.iret hx hb hr (fun t ht hW => ⟨rfl, ht⟩) (fun q hq => absurd hq List.not_mem_nil) dX5_cells_51
    · have h := iteT hc h
      refine lv_iconst (v := (1)) hx hb dX5_cells_14 (by decide) ?_
      refine lv_goto (tgt := 51) hx hb dX5_cells_15 (by decide) ?_
      obtain rfl := Option.some.inj h
      exact W.iret hx hb hr (fun t ht hW => ⟨rfl, ht⟩) (fun q hq => absurd hq List.not_mem_nil) dX5_cells_51

abbrev rm_X5_cell : Room := { frames := 4, cells := 0, slots := 0, locals := 117 }
theorem ok_X5_cell : okY yX5_cell 3 := ⟨by decide +kernel, by decide +kernel, by decide +kernel⟩
set_option maxHeartbeats 4000000 in
set_option maxRecDepth 100000 in
theorem c_X5_cell (l : Launch) (z0 : Nat) (D : va_G) (t : Nat → ClassId) (A : Nat → Nat) (μ : MS) (a1 : Int32) (a2 : Int32) (a3 : Int32) (res : Int32 × (Int32)) (sz : Nat) (h : f_X5_cell μ a1 a2 a3 = some res) : Met l yX5_cell (ws_ yX5_cell cX5_cell 4 (some .int)) rm_X5_cell (PM z0 D t [.ref (A 0), .int a1, .int a2, .int a3] (MW A t μ) (ML A) sz) (QM (some (.int res.1)) D (MW A t (m_thrown' μ res.2)) (ML A) sz) 0 0 (OA (ML A) sz) := by
  refine Met.ofW (cc := cX5_cell) (maxL := 4) (ret := (some .int)) (by decide) rfl ?_
  intro p e s m args below meth c s₁ Bo hml hv
  obtain ⟨rfl, hC, hsz, hP, hD, hZ⟩ := hv
  have hx := Bo.exec
  have hb := Bo.bytes
  have hr := Bo.returns
  have hts : ∀ w ∈ LA, w.before _ s = true := fun w hw => atoms_spec (ws := ws_ yX5_cell cX5_cell 4 (some .int)) Bo.pre w (List.mem_cons_of_mem _ hw)
  have hown : s.vm.findClass RX5 = some m.cls := findClass_of_methodNamed Bo.named
  have hlocks := Bo.notSynchronized
  have hK := hC.1
  subst hsz
  have hl := lv_entry ([.ref (A 0), .int a1, .int a2, .int a3]) (n := 4) (Nat.le_of_ble_eq_true rfl)
  rw [lg_entry_eq]
  generalize (lg_sl ([.ref (A 0), .int a1, .int a2, .int a3]) ++ List.replicate (4 - (lg_sl ([.ref (A 0), .int a1, .int a2, .int a3])).length) Slot.unset).toArray = ls at hl ⊢
  have hl : lv_has ls 4 [(0, .ref (A 0)), (1, .int a1), (2, .int a2), (3, .int a3)] := hl
  suffices K9 : ∀ (H : Heap) (locs : List Loc), va_P D vwCl (MW A t μ) H → va_S (OA (ML A) s.heap.size) s.heap H locs → W p l e (headSpec (ws_ yX5_cell cX5_cell 4 (some .int)) rm_X5_cell).room s m ([.ref (A 0), .int a1, .int a2, .int a3] : List Value).toArray below meth c H locs 0 0 (MQ below (QM (some (.int res.1)) D (MW A t (m_thrown' μ res.2)) (ML A) s.heap.size) ([.ref (A 0), .int a1, .int a2, .int a3] : List Value).toArray s 0 0 (OA (ML A) s.heap.size)) (F0 m 0 ls []) from K9 s.heap [] hP va_S.rf
  intro H locs hP hS
  have hSz : s.heap.size ≤ H.size := hS.1
  unfold f_X5_cell at h
  refine lv_aload_n hx hb dX5_cell_0 rfl (lv_at hl 0 rfl) ?_
  refine lv_aload_n hx hb dX5_cell_1 rfl (lv_at hl 0 rfl) ?_
  refine lv_iload_n hx hb dX5_cell_2 rfl (lv_at hl 1 rfl) ?_
  refine lv_iload_n hx hb dX5_cell_3 rfl (lv_at hl 2 rfl) ?_
  obtain ⟨r1, er1, h⟩ := obind h
  refine call_R (va_runV (As := [.int a1, .int a2]) (rest := [.ref (A 0)]) ⟨hx, hb, hml, hown, hts⟩ (c_X5_isIn l z0 D t A μ a1 a2 _ er1) (kV hts qw1027 qw1029 qs34 qw9 qw1030 ok_X5_isIn ⟨Nat.le_of_ble_eq_true rfl, Nat.le_of_ble_eq_true rfl⟩) ⟨PR.blind, va_recv hK hP (ci := 6) (q0 := 0) rfl rfl, fun U hU hW => ⟨rfl, by rw [hU]; exact (hC.at hS hZ).warm hW, by rw [hU]; exact hP⟩⟩ rfl rfl hl.1 rfl (lv_room (Nat.le_of_ble_eq_true rfl)) dX5_cell_4 ⟨Nat.le_of_ble_eq_true rfl, Nat.le_of_ble_eq_true rfl⟩) ?_
  refine lv_iload_n hx hb dX5_cell_7 rfl (lv_at hl 3 rfl) ?_
  refine lv_iconst (v := (0)) hx hb dX5_cell_8 (by decide) ?_
  refine lv_iconst (v := (2)) hx hb dX5_cell_9 (by decide) ?_
  obtain ⟨r2, er2, h⟩ := obind h
  refine call_R (va_runS (As := [.int a3, .int (0 : Int32), .int (2 : Int32)]) (rest := [.int r1, .ref (A 0)]) ⟨hx, hb, hml, hown, hts⟩ (c_X5_in l z0 D t a3 (0 : Int32) (2 : Int32) _ er2) (kS hts qw1008 qw1009 qw9 qw1010 ok_X5_in ⟨Nat.le_of_ble_eq_true rfl, Nat.le_of_ble_eq_true rfl⟩) ⟨PR.blind, fun U hU hW => ⟨rfl, by rw [hU]; exact (hC.at hS hZ).warm hW, by rw [hU]; exact va_P_nil⟩⟩ rfl rfl hl.1 rfl (lv_room (Nat.le_of_ble_eq_true rfl)) dX5_cell_10 ⟨Nat.le_of_ble_eq_true rfl, Nat.le_of_ble_eq_true rfl⟩) ?_
  obtain ⟨r3, er3, h⟩ := obind h
  refine call_M (va_runV (As := [.int r1, .int r2]) (rest := []) ⟨hx, hb, hml, hown, hts⟩ (c_X5_goes l z0 D t A μ r1 r2 _ H.size er3) (kV hts qw1011 qw1013 qs31 qw9 qw1014 ok_X5_goes ⟨Nat.le_of_ble_eq_true rfl, Nat.le_of_ble_eq_true rfl⟩) ⟨PM.blind, va_recv hK hP (ci := 6) (q0 := 0) rfl rfl, fun U hU hW => ⟨rfl, by rw [hU]; exact (hC.at hS hZ).warm hW, by rw [hU], by rw [hU]; exact hP, ⟨hD.1, fun _ _ h9 => Or.inl (in_map (L := (ML A)) rfl h9)⟩, fun q hq => hZ q (OA.ofD hD rfl hSz q hq)⟩⟩ rfl rfl hl.1 rfl (lv_room (Nat.le_of_ble_eq_true rfl)) dX5_cell_13 ⟨Nat.le_of_ble_eq_true rfl, Nat.le_of_ble_eq_true rfl⟩) hS (OA.ofD hD rfl hSz) (fun H locs hP hD1 hS _ _ => ?_)
  have hP : va_P D vwCl (MW A t (m_thrown' μ r3.2)) H := hP
  have hD : va_D (OA (ML A) s.heap.size) (MW A t (m_thrown' μ r3.2)) := hD1.weaken (fun _ q _ h9 => OA.ofD hD rfl hSz q.1 h9)
  have hSz : s.heap.size ≤ H.size := hS.1
  refine lv_if_eq (tgt := 33) hx hb dX5_cell_16 (by decide) (fun hc => ?_) (fun hc => ?_)
  · have h := iteT hc h
    refine lv_iconst (v := (0)) hx hb dX5_cell_33 (by decide) ?_
    obtain rfl := Option.some.inj h
    exact W.iret hx hb hr (fun t ht hW => ⟨rfl, by rw [ht]; exact hP, hD, hS.F ht⟩) hS.2.2 dX5_cell_34
  · have h := iteF hc h
    refine lv_aload_n hx hb dX5_cell_19 rfl (lv_at hl 0 rfl) ?_
    refine lv_bipush (v := (8)) hx hb dX5_cell_20 (by decide) ?_
    refine lv_iload_n hx hb dX5_cell_22 rfl (lv_at hl 2 rfl) ?_
    refine lv_imul hx hb dX5_cell_23 ?_
    refine lv_iload_n hx hb dX5_cell_24 rfl (lv_at hl 1 rfl) ?_
    refine lv_iadd hx hb dX5_cell_25 ?_
    refine lv_iload_n hx hb dX5_cell_26 rfl (lv_at hl 3 rfl) ?_
    obtain ⟨r4, er4, h⟩ := obind h
    refine call_R (va_runV (As := [.int (((8 : Int32) * a2) + a1), .int a3]) (rest := []) ⟨hx, hb, hml, hown, hts⟩ (c_X5_cells l z0 D t A (m_thrown' μ r3.2) (((8 : Int32) * a2) + a1) a3 _ er4) (kV hts qw1158 qw1160 qs52 qw9 qw1161 ok_X5_cells ⟨Nat.le_of_ble_eq_true rfl, Nat.le_of_ble_eq_true rfl⟩) ⟨PR.blind, va_recv hK hP (ci := 6) (q0 := 0) rfl rfl, fun U hU hW => ⟨rfl, by rw [hU]; exact (hC.at hS hZ).warm hW, by rw [hU]; exact hP⟩⟩ rfl rfl hl.1 rfl (lv_room (Nat.le_of_ble_eq_true rfl)) dX5_cell_27 ⟨Nat.le_of_ble_eq_true rfl, Nat.le_of_ble_eq_true rfl⟩) ?_
    refine lv_goto (tgt := 34) hx hb dX5_cell_30 (by decide) ?_
    obtain rfl := Option.some.inj h
    exact W.iret hx hb hr (fun t ht hW => ⟨rfl, by rw [ht]; exact hP, hD, hS.F ht⟩) hS.2.2 dX5_cell_34

abbrev rm_X5_triple : Room := { frames := 1, cells := 0, slots := 0, locals := 40 }
theorem ok_X5_triple : okY yX5_triple 2 := ⟨by decide +kernel, by decide +kernel, by decide +kernel⟩
set_option maxHeartbeats 4000000 in
set_option maxRecDepth 100000 in
theorem c_X5_triple (l : Launch) (z0 : Nat) (D : va_G) (t : Nat → ClassId) (A : Nat → Nat) (μ : MS) (a1 : Int32) (a2 : Int32) (res : Int32 × (Int32)) (sz : Nat) (h : f_X5_triple μ a1 a2 = some res) : Met l yX5_triple (ws_ yX5_triple cX5_triple 3 (some .int)) rm_X5_triple (PM z0 D t [.ref (A 0), .int a1, .int a2] (MW A t μ) (ML A) sz) (QM (some (.int res.1)) D (MW A t (m_thrown' μ res.2)) (ML A) sz) 0 0 (OA (ML A) sz) := by
  refine Met.ofW (cc := cX5_triple) (maxL := 3) (ret := (some .int)) (by decide) rfl ?_
  intro p e s m args below meth c s₁ Bo hml hv
  obtain ⟨rfl, hC, hsz, hP, hD, hZ⟩ := hv
  have hx := Bo.exec
  have hb := Bo.bytes
  have hr := Bo.returns
  have hts : ∀ w ∈ LA, w.before _ s = true := fun w hw => atoms_spec (ws := ws_ yX5_triple cX5_triple 3 (some .int)) Bo.pre w (List.mem_cons_of_mem _ hw)
  have hown : s.vm.findClass RX5 = some m.cls := findClass_of_methodNamed Bo.named
  have hlocks := Bo.notSynchronized
  have hK := hC.1
  subst hsz
  have hl := lv_entry ([.ref (A 0), .int a1, .int a2]) (n := 3) (Nat.le_of_ble_eq_true rfl)
  rw [lg_entry_eq]
  generalize (lg_sl ([.ref (A 0), .int a1, .int a2]) ++ List.replicate (3 - (lg_sl ([.ref (A 0), .int a1, .int a2])).length) Slot.unset).toArray = ls at hl ⊢
  have hl : lv_has ls 3 [(0, .ref (A 0)), (1, .int a1), (2, .int a2)] := hl
  suffices K9 : ∀ (H : Heap) (locs : List Loc), va_P D vwCl (MW A t μ) H → va_S (OA (ML A) s.heap.size) s.heap H locs → W p l e (headSpec (ws_ yX5_triple cX5_triple 3 (some .int)) rm_X5_triple).room s m ([.ref (A 0), .int a1, .int a2] : List Value).toArray below meth c H locs 0 0 (MQ below (QM (some (.int res.1)) D (MW A t (m_thrown' μ res.2)) (ML A) s.heap.size) ([.ref (A 0), .int a1, .int a2] : List Value).toArray s 0 0 (OA (ML A) s.heap.size)) (F0 m 0 ls []) from K9 s.heap [] hP va_S.rf
  intro H locs hP hS
  have hSz : s.heap.size ≤ H.size := hS.1
  unfold f_X5_triple at h
  refine lv_aload_n hx hb dX5_triple_0 rfl (lv_at hl 0 rfl) ?_
  refine lv_iload_n hx hb dX5_triple_1 rfl (lv_at hl 1 rfl) ?_
  refine lv_iconst (v := (0)) hx hb dX5_triple_2 (by decide) ?_
  refine lv_aload_n hx hb dX5_triple_3 rfl (lv_at hl 0 rfl) ?_
  refine va_get hx hb hts inX5 hown hK hP 0 rfl rfl 0 (by decide) (hts _ qw967) (fun _ h9 => h9) rfl dX5_triple_4 ?_
  refine lv_sipush (v := (131)) hx hb dX5_triple_7 (by decide) ?_
  obtain ⟨v1, ev1, h⟩ := obind h
  refine k_iald hx hb hK hP 1 rfl ev1 dX5_triple_10 ?_
  refine lv_iconst (v := (1)) hx hb dX5_triple_11 (by decide) ?_
  refine lv_isub hx hb dX5_triple_12 ?_
  obtain ⟨r2, er2, h⟩ := obind h
  refine call_R (va_runS (As := [.int a1, .int (0 : Int32), .int (v1 - (1 : Int32))]) (rest := [.ref (A 0)]) ⟨hx, hb, hml, hown, hts⟩ (c_X5_in l z0 D t a1 (0 : Int32) (v1 - (1 : Int32)) _ er2) (kS hts qw1008 qw1009 qw9 qw1010 ok_X5_in ⟨Nat.le_of_ble_eq_true rfl, Nat.le_of_ble_eq_true rfl⟩) ⟨PR.blind, fun U hU hW => ⟨rfl, by rw [hU]; exact (hC.at hS hZ).warm hW, by rw [hU]; exact va_P_nil⟩⟩ rfl rfl hl.1 rfl (lv_room (Nat.le_of_ble_eq_true rfl)) dX5_triple_13 ⟨Nat.le_of_ble_eq_true rfl, Nat.le_of_ble_eq_true rfl⟩) ?_
  refine lv_iload_n hx hb dX5_triple_16 rfl (lv_at hl 2 rfl) ?_
  refine lv_iconst (v := (0)) hx hb dX5_triple_17 (by decide) ?_
  refine lv_iconst (v := (2)) hx hb dX5_triple_18 (by decide) ?_
  obtain ⟨r3, er3, h⟩ := obind h
  refine call_R (va_runS (As := [.int a2, .int (0 : Int32), .int (2 : Int32)]) (rest := [.int r2, .ref (A 0)]) ⟨hx, hb, hml, hown, hts⟩ (c_X5_in l z0 D t a2 (0 : Int32) (2 : Int32) _ er3) (kS hts qw1008 qw1009 qw9 qw1010 ok_X5_in ⟨Nat.le_of_ble_eq_true rfl, Nat.le_of_ble_eq_true rfl⟩) ⟨PR.blind, fun U hU hW => ⟨rfl, by rw [hU]; exact (hC.at hS hZ).warm hW, by rw [hU]; exact va_P_nil⟩⟩ rfl rfl hl.1 rfl (lv_room (Nat.le_of_ble_eq_true rfl)) dX5_triple_19 ⟨Nat.le_of_ble_eq_true rfl, Nat.le_of_ble_eq_true rfl⟩) ?_
  obtain ⟨r4, er4, h⟩ := obind h
  refine call_M (va_runV (As := [.int r2, .int r3]) (rest := []) ⟨hx, hb, hml, hown, hts⟩ (c_X5_goes l z0 D t A μ r2 r3 _ H.size er4) (kV hts qw1011 qw1013 qs31 qw9 qw1014 ok_X5_goes ⟨Nat.le_of_ble_eq_true rfl, Nat.le_of_ble_eq_true rfl⟩) ⟨PM.blind, va_recv hK hP (ci := 6) (q0 := 0) rfl rfl, fun U hU hW => ⟨rfl, by rw [hU]; exact (hC.at hS hZ).warm hW, by rw [hU], by rw [hU]; exact hP, ⟨hD.1, fun _ _ h9 => Or.inl (in_map (L := (ML A)) rfl h9)⟩, fun q hq => hZ q (OA.ofD hD rfl hSz q hq)⟩⟩ rfl rfl hl.1 rfl (lv_room (Nat.le_of_ble_eq_true rfl)) dX5_triple_22 ⟨Nat.le_of_ble_eq_true rfl, Nat.le_of_ble_eq_true rfl⟩) hS (OA.ofD hD rfl hSz) (fun H locs hP hD1 hS _ _ => ?_)
  have hP : va_P D vwCl (MW A t (m_thrown' μ r4.2)) H := hP
  have hD : va_D (OA (ML A) s.heap.size) (MW A t (m_thrown' μ r4.2)) := hD1.weaken (fun _ q _ h9 => OA.ofD hD rfl hSz q.1 h9)
  have hSz : s.heap.size ≤ H.size := hS.1
  refine lv_if_eq (tgt := 45) hx hb dX5_triple_25 (by decide) (fun hc => ?_) (fun hc => ?_)
  · have h := iteT hc h
    refine lv_iconst (v := (0)) hx hb dX5_triple_45 (by decide) ?_
    obtain rfl := Option.some.inj h
    exact W.iret hx hb hr (fun t ht hW => ⟨rfl, by rw [ht]; exact hP, hD, hS.F ht⟩) hS.2.2 dX5_triple_46
  · have h := iteF hc h
    refine lv_aload_n hx hb dX5_triple_28 rfl (lv_at hl 0 rfl) ?_
    refine va_get hx hb hts inX5 hown hK hP 0 rfl rfl 0 (by decide) (hts _ qw967) (fun _ h9 => h9) rfl dX5_triple_29 ?_
    refine lv_sipush (v := (132)) hx hb dX5_triple_32 (by decide) ?_
    refine lv_iconst (v := (3)) hx hb dX5_triple_35 (by decide) ?_
    refine lv_iload_n hx hb dX5_triple_36 rfl (lv_at hl 1 rfl) ?_
    refine lv_imul hx hb dX5_triple_37 ?_
    refine lv_iadd hx hb dX5_triple_38 ?_
    refine lv_iload_n hx hb dX5_triple_39 rfl (lv_at hl 2 rfl) ?_
    refine lv_iadd hx hb dX5_triple_40 ?_
    obtain ⟨v5, ev5, h⟩ := obind h
    refine k_iald hx hb hK hP 1 rfl ev5 dX5_triple_41 ?_
    refine lv_goto (tgt := 46) hx hb dX5_triple_42 (by decide) ?_
    obtain rfl := Option.some.inj h
    exact W.iret hx hb hr (fun t ht hW => ⟨rfl, by rw [ht]; exact hP, hD, hS.F ht⟩) hS.2.2 dX5_triple_46

abbrev rm_X5_mask : Room := { frames := 4, cells := 0, slots := 0, locals := 117 }
theorem ok_X5_mask : okY yX5_mask 2 := ⟨by decide +kernel, by decide +kernel, by decide +kernel⟩
set_option maxHeartbeats 4000000 in
set_option maxRecDepth 100000 in
theorem c_X5_mask (l : Launch) (z0 : Nat) (D : va_G) (t : Nat → ClassId) (A : Nat → Nat) (μ : MS) (a1 : Int32) (a2 : Int32) (res : Int32) (h : f_X5_mask μ a1 a2 = some res) : Met l yX5_mask (ws_ yX5_mask cX5_mask 6 (some .int)) rm_X5_mask (PR z0 D t [.ref (A 0), .int a1, .int a2] (MW A t μ)) (QR (some (.int res))) 0 0 FN := by
  refine Met.ofW (cc := cX5_mask) (maxL := 6) (ret := (some .int)) (by decide) rfl ?_
  intro p e s m args below meth c s₁ Bo hml hv
  obtain ⟨rfl, hC, hP⟩ := hv
  have hx := Bo.exec
  have hb := Bo.bytes
  have hr := Bo.returns
  have hts : ∀ w ∈ LA, w.before _ s = true := fun w hw => atoms_spec (ws := ws_ yX5_mask cX5_mask 6 (some .int)) Bo.pre w (List.mem_cons_of_mem _ hw)
  have hown : s.vm.findClass RX5 = some m.cls := findClass_of_methodNamed Bo.named
  have hlocks := Bo.notSynchronized
  have hK := hC.1
  have hl := lv_entry ([.ref (A 0), .int a1, .int a2]) (n := 6) (Nat.le_of_ble_eq_true rfl)
  rw [lg_entry_eq]
  generalize (lg_sl ([.ref (A 0), .int a1, .int a2]) ++ List.replicate (6 - (lg_sl ([.ref (A 0), .int a1, .int a2])).length) Slot.unset).toArray = ls at hl ⊢
  have hl : lv_has ls 6 [(0, .ref (A 0)), (1, .int a1), (2, .int a2)] := hl
  unfold f_X5_mask at h
  refine lv_iconst (v := (0)) hx hb dX5_mask_0 (by decide) ?_
  refine lv_istore_n (lv' := [(3, .int (0 : Int32)), (0, .ref (A 0)), (1, .int a1), (2, .int a2)]) hx hb dX5_mask_1 rfl hl (by decide) rfl (fun ls hl => ?_)
  refine lv_iload_n hx hb dX5_mask_2 rfl (lv_at hl 3 rfl) ?_
  obtain ⟨o1, eo1, h⟩ := obind h
  have hJ13_o1 : ∀ ls : Array Slot, lv_has ls 6 [(0, .ref (A 0)), (1, .int a1), (3, .int (0 : Int32))] → W p l e (headSpec (ws_ yX5_mask cX5_mask 6 (some .int)) rm_X5_mask).room s m ([.ref (A 0), .int a1, .int a2] : List Value).toArray below meth c s.heap [] 0 0 (MQ below (QR (some (.int res))) ([.ref (A 0), .int a1, .int a2] : List Value).toArray s 0 0 FN) (F0 m 13 ls [.int o1]) := by
    intro ls hl
    refine lv_istore (lv' := [(4, .int o1), (0, .ref (A 0)), (1, .int a1), (3, .int (0 : Int32))]) hx hb dX5_mask_13 hl (by decide) rfl (fun ls hl => ?_)
    refine lv_iconst (v := (0)) hx hb dX5_mask_15 (by decide) ?_
    refine lv_istore (lv' := [(5, .int (0 : Int32)), (4, .int o1), (0, .ref (A 0)), (1, .int a1), (3, .int (0 : Int32))]) hx hb dX5_mask_16 hl (by decide) rfl (fun ls hl => ?_)
    obtain ⟨o12, eo12, h⟩ := obind h
    have hL18 : ∀ (n : Nat) (y3_18 : Int32) (y5_18 : Int32) (o12 : Int32), f_X5_mask_L18 a1 μ o1 n y3_18 y5_18 = some o12 → (∀ (ls : Array Slot), lv_has ls 6 [(3, .int o12)] → W p l e (headSpec (ws_ yX5_mask cX5_mask 6 (some .int)) rm_X5_mask).room s m ([.ref (A 0), .int a1, .int a2] : List Value).toArray below meth c s.heap [] 0 0 (MQ below (QR (some (.int res))) ([.ref (A 0), .int a1, .int a2] : List Value).toArray s 0 0 FN) (F0 m 63 ls [])) → ∀ (ls : Array Slot), lv_has ls 6 [(0, .ref (A 0)), (1, .int a1), (3, .int y3_18), (4, .int o1), (5, .int y5_18)] → W p l e (headSpec (ws_ yX5_mask cX5_mask 6 (some .int)) rm_X5_mask).room s m ([.ref (A 0), .int a1, .int a2] : List Value).toArray below meth c s.heap [] 0 0 (MQ below (QR (some (.int res))) ([.ref (A 0), .int a1, .int a2] : List Value).toArray s 0 0 FN) (F0 m 18 ls []) := by
      intro n
      induction n with
      | zero => intro y3_18 y5_18 o12 h; exact absurd h (fun z => by cases z)
      | succ n ih =>
        intro y3_18 y5_18 o12 h hK18 ls hl
        replace h : f_X5_mask_L18_b a1 μ o1 (f_X5_mask_L18 a1 μ o1 n) y3_18 y5_18 = some o12 := h
        unfold f_X5_mask_L18_b at h
        refine lv_iload hx hb dX5_mask_18 (lv_at hl 4 rfl) ?_
        refine lv_aload_n hx hb dX5_mask_20 rfl (lv_at hl 0 rfl) ?_
        refine va_get hx hb hts inX5 hown hK hP 0 rfl rfl 0 (by decide) (hts _ qw967) (fun _ h9 => h9) rfl dX5_mask_21 ?_
        refine lv_iconst (v := (0)) hx hb dX5_mask_24 (by decide) ?_
        obtain ⟨v13, ev13, h⟩ := obind h
        refine k_iald hx hb hK hP 1 rfl ev13 dX5_mask_25 ?_
        refine lv_icmp_ge (tgt := 63) hx hb dX5_mask_26 (by decide) (fun hc => ?_) (fun hc => ?_)
        · have h := iteT hc h
          obtain rfl := Option.some.inj h
          exact hK18 ls (lv_sub hl [2] rfl)
        · have h := iteF hc h
          refine lv_iload_n hx hb dX5_mask_29 rfl (lv_at hl 2 rfl) ?_
          refine lv_aload_n hx hb dX5_mask_30 rfl (lv_at hl 0 rfl) ?_
          refine lv_bipush (v := (8)) hx hb dX5_mask_31 (by decide) ?_
          refine lv_iload_n hx hb dX5_mask_33 rfl (lv_at hl 1 rfl) ?_
          refine lv_imul hx hb dX5_mask_34 ?_
          refine lv_iload hx hb dX5_mask_35 (lv_at hl 4 rfl) ?_
          refine lv_iadd hx hb dX5_mask_37 ?_
          refine lv_iconst (v := (0)) hx hb dX5_mask_38 (by decide) ?_
          obtain ⟨r14, er14, h⟩ := obind h
          refine call_R (va_runV (As := [.int (((8 : Int32) * a1) + y5_18), .int (0 : Int32)]) (rest := [.int y3_18]) ⟨hx, hb, hml, hown, hts⟩ (c_X5_cells l z0 D t A μ (((8 : Int32) * a1) + y5_18) (0 : Int32) _ er14) (kV hts qw1158 qw1160 qs52 qw9 qw1161 ok_X5_cells ⟨Nat.le_of_ble_eq_true rfl, Nat.le_of_ble_eq_true rfl⟩) ⟨PR.blind, va_recv hK hP (ci := 6) (q0 := 0) rfl rfl, fun U hU hW => ⟨rfl, by rw [hU]; exact hC.warm hW, by rw [hU]; exact hP⟩⟩ rfl rfl hl.1 rfl (lv_room (Nat.le_of_ble_eq_true rfl)) dX5_mask_39 ⟨Nat.le_of_ble_eq_true rfl, Nat.le_of_ble_eq_true rfl⟩) ?_
          refine lv_iload hx hb dX5_mask_42 (lv_at hl 3 rfl) ?_
          obtain ⟨o15, eo15, h⟩ := obind h
          have hJ55_o15 : ∀ ls : Array Slot, lv_has ls 6 [(0, .ref (A 0)), (1, .int a1), (4, .int o1), (5, .int y5_18)] → W p l e (headSpec (ws_ yX5_mask cX5_mask 6 (some .int)) rm_X5_mask).room s m ([.ref (A 0), .int a1, .int a2] : List Value).toArray below meth c s.heap [] 0 0 (MQ below (QR (some (.int res))) ([.ref (A 0), .int a1, .int a2] : List Value).toArray s 0 0 FN) (F0 m 55 ls [.int o15, .int y3_18]) := by
            intro ls hl
            refine lv_ior hx hb dX5_mask_55 ?_
            obtain ⟨x16, ex16, h⟩ := jlet_some h
            refine topI ex16 ?_
            refine lv_istore_n (lv' := [(3, .int x16), (0, .ref (A 0)), (1, .int a1), (4, .int o1), (5, .int y5_18)]) hx hb dX5_mask_56 rfl hl (by decide) rfl (fun ls hl => ?_)
            obtain ⟨x17, ex17, h⟩ := jlet_some h
            refine lv_iinc (v := x17) (lv' := [(5, .int x17), (3, .int x16), (0, .ref (A 0)), (1, .int a1), (4, .int o1)]) hx hb dX5_mask_57 hl (k := 4) rfl (by rw [ex17]; rfl) (by decide) rfl (fun ls hl => ?_)
            refine lv_goto (tgt := 18) hx hb dX5_mask_60 (by decide) ?_
            exact ih _ _ _ h hK18 ls (lv_sub hl [2, 3, 1, 4, 0] rfl)
          have h := eo15
          clear eo15
          refine lv_icmp_ne (tgt := 54) hx hb dX5_mask_44 (by decide) (fun hc => ?_) (fun hc => ?_)
          · have h := iteF hc h
            refine lv_iconst (v := (0)) hx hb dX5_mask_54 (by decide) ?_
            obtain rfl := Option.some.inj h
            exact hJ55_o15 ls (lv_sub hl [0, 1, 3, 4] rfl)
          · have h := iteT hc h
            refine lv_iconst (v := (1)) hx hb dX5_mask_47 (by decide) ?_
            refine lv_iload hx hb dX5_mask_48 (lv_at hl 4 rfl) ?_
            refine lv_ishl hx hb dX5_mask_50 ?_
            refine lv_goto (tgt := 55) hx hb dX5_mask_51 (by decide) ?_
            obtain rfl := Option.some.inj h
            exact hJ55_o15 ls (lv_sub hl [0, 1, 3, 4] rfl)
    refine hL18 _ _ _ _ eo12 (fun ls hl => ?_) ls (lv_sub hl [2, 3, 4, 1, 0] rfl)
    refine lv_iload_n hx hb dX5_mask_63 rfl (lv_at hl 0 rfl) ?_
    obtain rfl := Option.some.inj h
    exact W.iret hx hb hr (fun t ht hW => ⟨rfl, ht⟩) (fun q hq => absurd hq List.not_mem_nil) dX5_mask_64
  have h := eo1
  clear eo1
  refine lv_if_ne (tgt := 10) hx hb dX5_mask_3 (by decide) (fun hc => ?_) (fun hc => ?_)
  · have h := iteF hc h
    refine lv_iload_n hx hb dX5_mask_10 rfl (lv_at hl 3 rfl) ?_
    refine lv_iconst (v := (1)) hx hb dX5_mask_11 (by decide) ?_
    refine lv_iadd hx hb dX5_mask_12 ?_
    obtain rfl := Option.some.inj h
    exact hJ13_o1 ls (lv_sub hl [1, 2, 0] rfl)
  · have h := iteT hc h
    refine lv_iconst (v := (0)) hx hb dX5_mask_6 (by decide) ?_
    refine lv_goto (tgt := 13) hx hb dX5_mask_7 (by decide) ?_
    obtain rfl := Option.some.inj h
    exact hJ13_o1 ls (lv_sub hl [1, 2, 0] rfl)

abbrev rm_X5_row : Room := { frames := 5, cells := 0, slots := 0, locals := 142 }
theorem ok_X5_row : okY yX5_row 2 := ⟨by decide +kernel, by decide +kernel, by decide +kernel⟩
set_option maxHeartbeats 4000000 in
set_option maxRecDepth 100000 in
theorem c_X5_row (l : Launch) (z0 : Nat) (D : va_G) (t : Nat → ClassId) (A : Nat → Nat) (μ : MS) (a1 : Int32) (a2 : Int32) (res : Int32 × (Int32)) (sz : Nat) (h : f_X5_row μ a1 a2 = some res) : Met l yX5_row (ws_ yX5_row cX5_row 3 (some .int)) rm_X5_row (PM z0 D t [.ref (A 0), .int a1, .int a2] (MW A t μ) (ML A) sz) (QM (some (.int res.1)) D (MW A t (m_thrown' μ res.2)) (ML A) sz) 0 0 (OA (ML A) sz) := by
  refine Met.ofW (cc := cX5_row) (maxL := 3) (ret := (some .int)) (by decide) rfl ?_
  intro p e s m args below meth c s₁ Bo hml hv
  obtain ⟨rfl, hC, hsz, hP, hD, hZ⟩ := hv
  have hx := Bo.exec
  have hb := Bo.bytes
  have hr := Bo.returns
  have hts : ∀ w ∈ LA, w.before _ s = true := fun w hw => atoms_spec (ws := ws_ yX5_row cX5_row 3 (some .int)) Bo.pre w (List.mem_cons_of_mem _ hw)
  have hown : s.vm.findClass RX5 = some m.cls := findClass_of_methodNamed Bo.named
  have hlocks := Bo.notSynchronized
  have hK := hC.1
  subst hsz
  have hl := lv_entry ([.ref (A 0), .int a1, .int a2]) (n := 3) (Nat.le_of_ble_eq_true rfl)
  rw [lg_entry_eq]
  generalize (lg_sl ([.ref (A 0), .int a1, .int a2]) ++ List.replicate (3 - (lg_sl ([.ref (A 0), .int a1, .int a2])).length) Slot.unset).toArray = ls at hl ⊢
  have hl : lv_has ls 3 [(0, .ref (A 0)), (1, .int a1), (2, .int a2)] := hl
  suffices K9 : ∀ (H : Heap) (locs : List Loc), va_P D vwCl (MW A t μ) H → va_S (OA (ML A) s.heap.size) s.heap H locs → W p l e (headSpec (ws_ yX5_row cX5_row 3 (some .int)) rm_X5_row).room s m ([.ref (A 0), .int a1, .int a2] : List Value).toArray below meth c H locs 0 0 (MQ below (QM (some (.int res.1)) D (MW A t (m_thrown' μ res.2)) (ML A) s.heap.size) ([.ref (A 0), .int a1, .int a2] : List Value).toArray s 0 0 (OA (ML A) s.heap.size)) (F0 m 0 ls []) from K9 s.heap [] hP va_S.rf
  intro H locs hP hS
  have hSz : s.heap.size ≤ H.size := hS.1
  unfold f_X5_row at h
  refine lv_aload_n hx hb dX5_row_0 rfl (lv_at hl 0 rfl) ?_
  refine lv_iload_n hx hb dX5_row_1 rfl (lv_at hl 1 rfl) ?_
  refine lv_iconst (v := (0)) hx hb dX5_row_2 (by decide) ?_
  refine lv_aload_n hx hb dX5_row_3 rfl (lv_at hl 0 rfl) ?_
  refine va_get hx hb hts inX5 hown hK hP 0 rfl rfl 0 (by decide) (hts _ qw967) (fun _ h9 => h9) rfl dX5_row_4 ?_
  refine lv_iconst (v := (1)) hx hb dX5_row_7 (by decide) ?_
  obtain ⟨v1, ev1, h⟩ := obind h
  refine k_iald hx hb hK hP 1 rfl ev1 dX5_row_8 ?_
  refine lv_iconst (v := (1)) hx hb dX5_row_9 (by decide) ?_
  refine lv_isub hx hb dX5_row_10 ?_
  obtain ⟨r2, er2, h⟩ := obind h
  refine call_R (va_runS (As := [.int a1, .int (0 : Int32), .int (v1 - (1 : Int32))]) (rest := [.ref (A 0)]) ⟨hx, hb, hml, hown, hts⟩ (c_X5_in l z0 D t a1 (0 : Int32) (v1 - (1 : Int32)) _ er2) (kS hts qw1008 qw1009 qw9 qw1010 ok_X5_in ⟨Nat.le_of_ble_eq_true rfl, Nat.le_of_ble_eq_true rfl⟩) ⟨PR.blind, fun U hU hW => ⟨rfl, by rw [hU]; exact (hC.at hS hZ).warm hW, by rw [hU]; exact va_P_nil⟩⟩ rfl rfl hl.1 rfl (lv_room (Nat.le_of_ble_eq_true rfl)) dX5_row_11 ⟨Nat.le_of_ble_eq_true rfl, Nat.le_of_ble_eq_true rfl⟩) ?_
  refine lv_iload_n hx hb dX5_row_14 rfl (lv_at hl 2 rfl) ?_
  refine lv_iconst (v := (0)) hx hb dX5_row_15 (by decide) ?_
  refine lv_iconst (v := (2)) hx hb dX5_row_16 (by decide) ?_
  obtain ⟨r3, er3, h⟩ := obind h
  refine call_R (va_runS (As := [.int a2, .int (0 : Int32), .int (2 : Int32)]) (rest := [.int r2, .ref (A 0)]) ⟨hx, hb, hml, hown, hts⟩ (c_X5_in l z0 D t a2 (0 : Int32) (2 : Int32) _ er3) (kS hts qw1008 qw1009 qw9 qw1010 ok_X5_in ⟨Nat.le_of_ble_eq_true rfl, Nat.le_of_ble_eq_true rfl⟩) ⟨PR.blind, fun U hU hW => ⟨rfl, by rw [hU]; exact (hC.at hS hZ).warm hW, by rw [hU]; exact va_P_nil⟩⟩ rfl rfl hl.1 rfl (lv_room (Nat.le_of_ble_eq_true rfl)) dX5_row_17 ⟨Nat.le_of_ble_eq_true rfl, Nat.le_of_ble_eq_true rfl⟩) ?_
  obtain ⟨r4, er4, h⟩ := obind h
  refine call_M (va_runV (As := [.int r2, .int r3]) (rest := []) ⟨hx, hb, hml, hown, hts⟩ (c_X5_goes l z0 D t A μ r2 r3 _ H.size er4) (kV hts qw1011 qw1013 qs31 qw9 qw1014 ok_X5_goes ⟨Nat.le_of_ble_eq_true rfl, Nat.le_of_ble_eq_true rfl⟩) ⟨PM.blind, va_recv hK hP (ci := 6) (q0 := 0) rfl rfl, fun U hU hW => ⟨rfl, by rw [hU]; exact (hC.at hS hZ).warm hW, by rw [hU], by rw [hU]; exact hP, ⟨hD.1, fun _ _ h9 => Or.inl (in_map (L := (ML A)) rfl h9)⟩, fun q hq => hZ q (OA.ofD hD rfl hSz q hq)⟩⟩ rfl rfl hl.1 rfl (lv_room (Nat.le_of_ble_eq_true rfl)) dX5_row_20 ⟨Nat.le_of_ble_eq_true rfl, Nat.le_of_ble_eq_true rfl⟩) hS (OA.ofD hD rfl hSz) (fun H locs hP hD1 hS _ _ => ?_)
  have hP : va_P D vwCl (MW A t (m_thrown' μ r4.2)) H := hP
  have hD : va_D (OA (ML A) s.heap.size) (MW A t (m_thrown' μ r4.2)) := hD1.weaken (fun _ q _ h9 => OA.ofD hD rfl hSz q.1 h9)
  have hSz : s.heap.size ≤ H.size := hS.1
  refine lv_if_eq (tgt := 35) hx hb dX5_row_23 (by decide) (fun hc => ?_) (fun hc => ?_)
  · have h := iteT hc h
    refine lv_iconst (v := (0)) hx hb dX5_row_35 (by decide) ?_
    obtain rfl := Option.some.inj h
    exact W.iret hx hb hr (fun t ht hW => ⟨rfl, by rw [ht]; exact hP, hD, hS.F ht⟩) hS.2.2 dX5_row_36
  · have h := iteF hc h
    refine lv_aload_n hx hb dX5_row_26 rfl (lv_at hl 0 rfl) ?_
    refine lv_iload_n hx hb dX5_row_27 rfl (lv_at hl 1 rfl) ?_
    refine lv_iload_n hx hb dX5_row_28 rfl (lv_at hl 2 rfl) ?_
    obtain ⟨r5, er5, h⟩ := obind h
    refine call_R (va_runV (As := [.int a1, .int a2]) (rest := []) ⟨hx, hb, hml, hown, hts⟩ (c_X5_mask l z0 D t A (m_thrown' μ r4.2) a1 a2 _ er5) (kV hts qw1177 qw1179 qs54 qw9 qw1180 ok_X5_mask ⟨Nat.le_of_ble_eq_true rfl, Nat.le_of_ble_eq_true rfl⟩) ⟨PR.blind, va_recv hK hP (ci := 6) (q0 := 0) rfl rfl, fun U hU hW => ⟨rfl, by rw [hU]; exact (hC.at hS hZ).warm hW, by rw [hU]; exact hP⟩⟩ rfl rfl hl.1 rfl (lv_room (Nat.le_of_ble_eq_true rfl)) dX5_row_29 ⟨Nat.le_of_ble_eq_true rfl, Nat.le_of_ble_eq_true rfl⟩) ?_
    refine lv_goto (tgt := 36) hx hb dX5_row_32 (by decide) ?_
    obtain rfl := Option.some.inj h
    exact W.iret hx hb hr (fun t ht hW => ⟨rfl, by rw [ht]; exact hP, hD, hS.F ht⟩) hS.2.2 dX5_row_36

abbrev rm_X5_flippable : Room := { frames := 2, cells := 0, slots := 0, locals := 63 }
theorem ok_X5_flippable : okY yX5_flippable 0 := ⟨by decide +kernel, by decide +kernel, by decide +kernel⟩
set_option maxHeartbeats 4000000 in
set_option maxRecDepth 100000 in
theorem c_X5_flippable (l : Launch) (z0 : Nat) (D : va_G) (t : Nat → ClassId) (A : Nat → Nat) (μ : MS) (res : Int32) (h : f_X5_flippable μ = some res) : Met l yX5_flippable (ws_ yX5_flippable cX5_flippable 4 (some .int)) rm_X5_flippable (PR z0 D t [.ref (A 0)] (MW A t μ)) (QR (some (.int res))) 0 0 FN := by
  refine Met.ofW (cc := cX5_flippable) (maxL := 4) (ret := (some .int)) (by decide) rfl ?_
  intro p e s m args below meth c s₁ Bo hml hv
  obtain ⟨rfl, hC, hP⟩ := hv
  have hx := Bo.exec
  have hb := Bo.bytes
  have hr := Bo.returns
  have hts : ∀ w ∈ LA, w.before _ s = true := fun w hw => atoms_spec (ws := ws_ yX5_flippable cX5_flippable 4 (some .int)) Bo.pre w (List.mem_cons_of_mem _ hw)
  have hown : s.vm.findClass RX5 = some m.cls := findClass_of_methodNamed Bo.named
  have hlocks := Bo.notSynchronized
  have hK := hC.1
  have hl := lv_entry ([.ref (A 0)]) (n := 4) (Nat.le_of_ble_eq_true rfl)
  rw [lg_entry_eq]
  generalize (lg_sl ([.ref (A 0)]) ++ List.replicate (4 - (lg_sl ([.ref (A 0)])).length) Slot.unset).toArray = ls at hl ⊢
  have hl : lv_has ls 4 [(0, .ref (A 0))] := hl
  unfold f_X5_flippable at h
  refine lv_iconst (v := (0)) hx hb dX5_flippable_0 (by decide) ?_
  refine lv_istore_n (lv' := [(1, .int (0 : Int32)), (0, .ref (A 0))]) hx hb dX5_flippable_1 rfl hl (by decide) rfl (fun ls hl => ?_)
  refine lv_iconst (v := (0)) hx hb dX5_flippable_2 (by decide) ?_
  refine lv_istore_n (lv' := [(2, .int (0 : Int32)), (1, .int (0 : Int32)), (0, .ref (A 0))]) hx hb dX5_flippable_3 rfl hl (by decide) rfl (fun ls hl => ?_)
  obtain ⟨o79, eo79, h⟩ := obind h
  have hL4 : ∀ (n : Nat) (y1_4 : Int32) (y2_4 : Int32) (o79 : Int32), f_X5_flippable_L4 μ n y1_4 y2_4 = some o79 → (∀ (ls : Array Slot), lv_has ls 4 [(1, .int o79)] → W p l e (headSpec (ws_ yX5_flippable cX5_flippable 4 (some .int)) rm_X5_flippable).room s m ([.ref (A 0)] : List Value).toArray below meth c s.heap [] 0 0 (MQ below (QR (some (.int res))) ([.ref (A 0)] : List Value).toArray s 0 0 FN) (F0 m 94 ls [])) → ∀ (ls : Array Slot), lv_has ls 4 [(0, .ref (A 0)), (1, .int y1_4), (2, .int y2_4)] → W p l e (headSpec (ws_ yX5_flippable cX5_flippable 4 (some .int)) rm_X5_flippable).room s m ([.ref (A 0)] : List Value).toArray below meth c s.heap [] 0 0 (MQ below (QR (some (.int res))) ([.ref (A 0)] : List Value).toArray s 0 0 FN) (F0 m 4 ls []) := by
    intro n
    induction n with
    | zero => intro y1_4 y2_4 o79 h; exact absurd h (fun z => by cases z)
    | succ n ih =>
      intro y1_4 y2_4 o79 h hK4 ls hl
      replace h : f_X5_flippable_L4_b μ (f_X5_flippable_L4 μ n) y1_4 y2_4 = some o79 := h
      unfold f_X5_flippable_L4_b at h
      refine lv_iload_n hx hb dX5_flippable_4 rfl (lv_at hl 2 rfl) ?_
      refine lv_aload_n hx hb dX5_flippable_5 rfl (lv_at hl 0 rfl) ?_
      refine va_get hx hb hts inX5 hown hK hP 0 rfl rfl 0 (by decide) (hts _ qw967) (fun _ h9 => h9) rfl dX5_flippable_6 ?_
      refine lv_iconst (v := (1)) hx hb dX5_flippable_9 (by decide) ?_
      obtain ⟨v80, ev80, h⟩ := obind h
      refine k_iald hx hb hK hP 1 rfl ev80 dX5_flippable_10 ?_
      refine lv_icmp_ge (tgt := 94) hx hb dX5_flippable_11 (by decide) (fun hc => ?_) (fun hc => ?_)
      · have h := iteT hc h
        obtain rfl := Option.some.inj h
        exact hK4 ls (lv_sub hl [1] rfl)
      · have h := iteF hc h
        refine lv_iconst (v := (0)) hx hb dX5_flippable_14 (by decide) ?_
        refine lv_istore_n (lv' := [(3, .int (0 : Int32)), (0, .ref (A 0)), (1, .int y1_4), (2, .int y2_4)]) hx hb dX5_flippable_15 rfl hl (by decide) rfl (fun ls hl => ?_)
        obtain ⟨o105, eo105, h⟩ := obind h
        have hL16 : ∀ (n : Nat) (y1_16 : Int32) (y3_16 : Int32) (o105 : Int32), f_X5_flippable_L16 μ y2_4 n y1_16 y3_16 = some o105 → (∀ (ls : Array Slot), lv_has ls 4 [(0, .ref (A 0)), (1, .int o105), (2, .int y2_4)] → W p l e (headSpec (ws_ yX5_flippable cX5_flippable 4 (some .int)) rm_X5_flippable).room s m ([.ref (A 0)] : List Value).toArray below meth c s.heap [] 0 0 (MQ below (QR (some (.int res))) ([.ref (A 0)] : List Value).toArray s 0 0 FN) (F0 m 88 ls [])) → ∀ (ls : Array Slot), lv_has ls 4 [(0, .ref (A 0)), (1, .int y1_16), (2, .int y2_4), (3, .int y3_16)] → W p l e (headSpec (ws_ yX5_flippable cX5_flippable 4 (some .int)) rm_X5_flippable).room s m ([.ref (A 0)] : List Value).toArray below meth c s.heap [] 0 0 (MQ below (QR (some (.int res))) ([.ref (A 0)] : List Value).toArray s 0 0 FN) (F0 m 16 ls []) := by
          intro n
          induction n with
          | zero => intro y1_16 y3_16 o105 h; exact absurd h (fun z => by cases z)
          | succ n ih =>
            intro y1_16 y3_16 o105 h hK16 ls hl
            replace h : f_X5_flippable_L16_b μ y2_4 (f_X5_flippable_L16 μ y2_4 n) y1_16 y3_16 = some o105 := h
            unfold f_X5_flippable_L16_b at h
            refine lv_iload_n hx hb dX5_flippable_16 rfl (lv_at hl 3 rfl) ?_
            refine lv_aload_n hx hb dX5_flippable_17 rfl (lv_at hl 0 rfl) ?_
            refine va_get hx hb hts inX5 hown hK hP 0 rfl rfl 0 (by decide) (hts _ qw967) (fun _ h9 => h9) rfl dX5_flippable_18 ?_
            refine lv_iconst (v := (0)) hx hb dX5_flippable_21 (by decide) ?_
            obtain ⟨v106, ev106, h⟩ := obind h
            refine k_iald hx hb hK hP 1 rfl ev106 dX5_flippable_22 ?_
            refine lv_icmp_ge (tgt := 88) hx hb dX5_flippable_23 (by decide) (fun hc => ?_) (fun hc => ?_)
            · have h := iteT hc h
              obtain rfl := Option.some.inj h
              exact hK16 ls (lv_sub hl [0, 1, 2] rfl)
            · have h := iteF hc h
              refine lv_iload_n hx hb dX5_flippable_26 rfl (lv_at hl 1 rfl) ?_
              refine lv_aload_n hx hb dX5_flippable_27 rfl (lv_at hl 0 rfl) ?_
              refine lv_iload_n hx hb dX5_flippable_28 rfl (lv_at hl 3 rfl) ?_
              refine lv_iload_n hx hb dX5_flippable_29 rfl (lv_at hl 2 rfl) ?_
              refine lv_iconst (v := (1)) hx hb dX5_flippable_30 (by decide) ?_
              obtain ⟨r107, er107, h⟩ := obind h
              refine call_R (va_runV (As := [.int y3_16, .int y2_4, .int (1 : Int32)]) (rest := [.int y1_16]) ⟨hx, hb, hml, hown, hts⟩ (c_X5_isBlock l z0 D t A μ y3_16 y2_4 (1 : Int32) _ er107) (kV hts qw1066 qw1068 qs39 qw9 qw1069 ok_X5_isBlock ⟨Nat.le_of_ble_eq_true rfl, Nat.le_of_ble_eq_true rfl⟩) ⟨PR.blind, va_recv hK hP (ci := 6) (q0 := 0) rfl rfl, fun U hU hW => ⟨rfl, by rw [hU]; exact hC.warm hW, by rw [hU]; exact hP⟩⟩ rfl rfl hl.1 rfl (lv_room (Nat.le_of_ble_eq_true rfl)) dX5_flippable_31 ⟨Nat.le_of_ble_eq_true rfl, Nat.le_of_ble_eq_true rfl⟩) ?_
              obtain ⟨o109, eo109, h⟩ := obind h
              have hJ52_o109 : ∀ ls : Array Slot, lv_has ls 4 [(0, .ref (A 0)), (2, .int y2_4), (3, .int y3_16)] → W p l e (headSpec (ws_ yX5_flippable cX5_flippable 4 (some .int)) rm_X5_flippable).room s m ([.ref (A 0)] : List Value).toArray below meth c s.heap [] 0 0 (MQ below (QR (some (.int res))) ([.ref (A 0)] : List Value).toArray s 0 0 FN) (F0 m 52 ls [.int o109, .int y1_16]) := by
                intro ls hl
                refine lv_iadd hx hb dX5_flippable_52 ?_
                obtain ⟨x111, ex111, h⟩ := jlet_some h
                refine topI ex111 ?_
                refine lv_istore_n (lv' := [(1, .int x111), (0, .ref (A 0)), (2, .int y2_4), (3, .int y3_16)]) hx hb dX5_flippable_53 rfl hl (by decide) rfl (fun ls hl => ?_)
                refine lv_iload_n hx hb dX5_flippable_54 rfl (lv_at hl 0 rfl) ?_
                refine lv_aload_n hx hb dX5_flippable_55 rfl (lv_at hl 1 rfl) ?_
                refine lv_iload_n hx hb dX5_flippable_56 rfl (lv_at hl 3 rfl) ?_
                refine lv_iload_n hx hb dX5_flippable_57 rfl (lv_at hl 2 rfl) ?_
                refine lv_iconst (v := (0)) hx hb dX5_flippable_58 (by decide) ?_
                obtain ⟨r112, er112, h⟩ := obind h
                refine call_R (va_runV (As := [.int y3_16, .int y2_4, .int (0 : Int32)]) (rest := [.int x111]) ⟨hx, hb, hml, hown, hts⟩ (c_X5_isBlock l z0 D t A μ y3_16 y2_4 (0 : Int32) _ er112) (kV hts qw1066 qw1068 qs39 qw9 qw1069 ok_X5_isBlock ⟨Nat.le_of_ble_eq_true rfl, Nat.le_of_ble_eq_true rfl⟩) ⟨PR.blind, va_recv hK hP (ci := 6) (q0 := 0) rfl rfl, fun U hU hW => ⟨rfl, by rw [hU]; exact hC.warm hW, by rw [hU]; exact hP⟩⟩ rfl rfl hl.1 rfl (lv_room (Nat.le_of_ble_eq_true rfl)) dX5_flippable_59 ⟨Nat.le_of_ble_eq_true rfl, Nat.le_of_ble_eq_true rfl⟩) ?_
                obtain ⟨o114, eo114, h⟩ := obind h
                have hJ80_o114 : ∀ ls : Array Slot, lv_has ls 4 [(0, .ref (A 0)), (2, .int y2_4), (3, .int y3_16)] → W p l e (headSpec (ws_ yX5_flippable cX5_flippable 4 (some .int)) rm_X5_flippable).room s m ([.ref (A 0)] : List Value).toArray below meth c s.heap [] 0 0 (MQ below (QR (some (.int res))) ([.ref (A 0)] : List Value).toArray s 0 0 FN) (F0 m 80 ls [.int o114, .int x111]) := by
                  intro ls hl
                  refine lv_iadd hx hb dX5_flippable_80 ?_
                  obtain ⟨x116, ex116, h⟩ := jlet_some h
                  refine topI ex116 ?_
                  refine lv_istore_n (lv' := [(1, .int x116), (0, .ref (A 0)), (2, .int y2_4), (3, .int y3_16)]) hx hb dX5_flippable_81 rfl hl (by decide) rfl (fun ls hl => ?_)
                  obtain ⟨x117, ex117, h⟩ := jlet_some h
                  refine lv_iinc (v := x117) (lv' := [(3, .int x117), (1, .int x116), (0, .ref (A 0)), (2, .int y2_4)]) hx hb dX5_flippable_82 hl (k := 3) rfl (by rw [ex117]; rfl) (by decide) rfl (fun ls hl => ?_)
                  refine lv_goto (tgt := 16) hx hb dX5_flippable_85 (by decide) ?_
                  exact ih _ _ _ h hK16 ls (lv_sub hl [2, 1, 3, 0] rfl)
                have h := eo114
                clear eo114
                refine lv_if_eq (tgt := 79) hx hb dX5_flippable_62 (by decide) (fun hc => ?_) (fun hc => ?_)
                · have h := iteT hc h
                  refine lv_iconst (v := (0)) hx hb dX5_flippable_79 (by decide) ?_
                  obtain rfl := Option.some.inj h
                  exact hJ80_o114 ls (lv_sub hl [1, 2, 3] rfl)
                · have h := iteF hc h
                  refine lv_aload_n hx hb dX5_flippable_65 rfl (lv_at hl 1 rfl) ?_
                  refine lv_iload_n hx hb dX5_flippable_66 rfl (lv_at hl 3 rfl) ?_
                  refine lv_iload_n hx hb dX5_flippable_67 rfl (lv_at hl 2 rfl) ?_
                  refine lv_iconst (v := (0)) hx hb dX5_flippable_68 (by decide) ?_
                  obtain ⟨r115, er115, h⟩ := obind h
                  refine call_R (va_runV (As := [.int y3_16, .int y2_4, .int (0 : Int32)]) (rest := [.int x111]) ⟨hx, hb, hml, hown, hts⟩ (c_X5_turnOf l z0 D t A μ y3_16 y2_4 (0 : Int32) _ er115) (kV hts qw1070 qw1072 qs40 qw9 qw1073 ok_X5_turnOf ⟨Nat.le_of_ble_eq_true rfl, Nat.le_of_ble_eq_true rfl⟩) ⟨PR.blind, va_recv hK hP (ci := 6) (q0 := 0) rfl rfl, fun U hU hW => ⟨rfl, by rw [hU]; exact hC.warm hW, by rw [hU]; exact hP⟩⟩ rfl rfl hl.1 rfl (lv_room (Nat.le_of_ble_eq_true rfl)) dX5_flippable_69 ⟨Nat.le_of_ble_eq_true rfl, Nat.le_of_ble_eq_true rfl⟩) ?_
                  refine lv_if_lt (tgt := 79) hx hb dX5_flippable_72 (by decide) (fun hc => ?_) (fun hc => ?_)
                  · have h := iteT hc h
                    refine lv_iconst (v := (0)) hx hb dX5_flippable_79 (by decide) ?_
                    obtain rfl := Option.some.inj h
                    exact hJ80_o114 ls (lv_sub hl [1, 2, 3] rfl)
                  · have h := iteF hc h
                    refine lv_iconst (v := (1)) hx hb dX5_flippable_75 (by decide) ?_
                    refine lv_goto (tgt := 80) hx hb dX5_flippable_76 (by decide) ?_
                    obtain rfl := Option.some.inj h
                    exact hJ80_o114 ls (lv_sub hl [1, 2, 3] rfl)
              have h := eo109
              clear eo109
              refine lv_if_eq (tgt := 51) hx hb dX5_flippable_34 (by decide) (fun hc => ?_) (fun hc => ?_)
              · have h := iteT hc h
                refine lv_iconst (v := (0)) hx hb dX5_flippable_51 (by decide) ?_
                obtain rfl := Option.some.inj h
                exact hJ52_o109 ls (lv_sub hl [0, 2, 3] rfl)
              · have h := iteF hc h
                refine lv_aload_n hx hb dX5_flippable_37 rfl (lv_at hl 0 rfl) ?_
                refine lv_iload_n hx hb dX5_flippable_38 rfl (lv_at hl 3 rfl) ?_
                refine lv_iload_n hx hb dX5_flippable_39 rfl (lv_at hl 2 rfl) ?_
                refine lv_iconst (v := (1)) hx hb dX5_flippable_40 (by decide) ?_
                obtain ⟨r110, er110, h⟩ := obind h
                refine call_R (va_runV (As := [.int y3_16, .int y2_4, .int (1 : Int32)]) (rest := [.int y1_16]) ⟨hx, hb, hml, hown, hts⟩ (c_X5_turnOf l z0 D t A μ y3_16 y2_4 (1 : Int32) _ er110) (kV hts qw1070 qw1072 qs40 qw9 qw1073 ok_X5_turnOf ⟨Nat.le_of_ble_eq_true rfl, Nat.le_of_ble_eq_true rfl⟩) ⟨PR.blind, va_recv hK hP (ci := 6) (q0 := 0) rfl rfl, fun U hU hW => ⟨rfl, by rw [hU]; exact hC.warm hW, by rw [hU]; exact hP⟩⟩ rfl rfl hl.1 rfl (lv_room (Nat.le_of_ble_eq_true rfl)) dX5_flippable_41 ⟨Nat.le_of_ble_eq_true rfl, Nat.le_of_ble_eq_true rfl⟩) ?_
                refine lv_if_lt (tgt := 51) hx hb dX5_flippable_44 (by decide) (fun hc => ?_) (fun hc => ?_)
                · have h := iteT hc h
                  refine lv_iconst (v := (0)) hx hb dX5_flippable_51 (by decide) ?_
                  obtain rfl := Option.some.inj h
                  exact hJ52_o109 ls (lv_sub hl [0, 2, 3] rfl)
                · have h := iteF hc h
                  refine lv_iconst (v := (1)) hx hb dX5_flippable_47 (by decide) ?_
                  refine lv_goto (tgt := 52) hx hb dX5_flippable_48 (by decide) ?_
                  obtain rfl := Option.some.inj h
                  exact hJ52_o109 ls (lv_sub hl [0, 2, 3] rfl)
        refine hL16 _ _ _ _ eo105 (fun ls hl => ?_) ls (lv_sub hl [1, 2, 3, 0] rfl)
        obtain ⟨x118, ex118, h⟩ := jlet_some h
        refine lv_iinc (v := x118) (lv' := [(2, .int x118), (0, .ref (A 0)), (1, .int o105)]) hx hb dX5_flippable_88 hl (k := 2) rfl (by rw [ex118]; rfl) (by decide) rfl (fun ls hl => ?_)
        refine lv_goto (tgt := 4) hx hb dX5_flippable_91 (by decide) ?_
        exact ih _ _ _ h hK4 ls (lv_sub hl [1, 2, 0] rfl)
  refine hL4 _ _ _ _ eo79 (fun ls hl => ?_) ls (lv_sub hl [2, 1, 0] rfl)
  refine lv_iload_n hx hb dX5_flippable_94 rfl (lv_at hl 0 rfl) ?_
  obtain rfl := Option.some.inj h
  exact W.iret hx hb hr (fun t ht hW => ⟨rfl, ht⟩) (fun q hq => absurd hq List.not_mem_nil) dX5_flippable_95

abbrev rm_X5_counted : Room := { frames := 3, cells := 0, slots := 0, locals := 95 }
theorem ok_X5_counted : okY yX5_counted 1 := ⟨by decide +kernel, by decide +kernel, by decide +kernel⟩
set_option maxHeartbeats 4000000 in
set_option maxRecDepth 100000 in
theorem c_X5_counted (l : Launch) (z0 : Nat) (D : va_G) (t : Nat → ClassId) (A : Nat → Nat) (μ : MS) (a1 : Int32) (res : Int32) (h : f_X5_counted μ a1 = some res) : Met l yX5_counted (ws_ yX5_counted cX5_counted 2 (some .int)) rm_X5_counted (PR z0 D t [.ref (A 0), .int a1] (MW A t μ)) (QR (some (.int res))) 0 0 FN := by
  refine Met.ofW (cc := cX5_counted) (maxL := 2) (ret := (some .int)) (by decide) rfl ?_
  intro p e s m args below meth c s₁ Bo hml hv
  obtain ⟨rfl, hC, hP⟩ := hv
  have hx := Bo.exec
  have hb := Bo.bytes
  have hr := Bo.returns
  have hts : ∀ w ∈ LA, w.before _ s = true := fun w hw => atoms_spec (ws := ws_ yX5_counted cX5_counted 2 (some .int)) Bo.pre w (List.mem_cons_of_mem _ hw)
  have hown : s.vm.findClass RX5 = some m.cls := findClass_of_methodNamed Bo.named
  have hlocks := Bo.notSynchronized
  have hK := hC.1
  have hl := lv_entry ([.ref (A 0), .int a1]) (n := 2) (Nat.le_of_ble_eq_true rfl)
  rw [lg_entry_eq]
  generalize (lg_sl ([.ref (A 0), .int a1]) ++ List.replicate (2 - (lg_sl ([.ref (A 0), .int a1])).length) Slot.unset).toArray = ls at hl ⊢
  have hl : lv_has ls 2 [(0, .ref (A 0)), (1, .int a1)] := hl
  unfold f_X5_counted at h
  refine lv_iload_n hx hb dX5_counted_0 rfl (lv_at hl 1 rfl) ?_
  by_cases hc0 : a1 = (0 : Int32)
  · have h := iteT hc0 h
    refine lv_tableIn (tgt := 60) hx hb dX5_counted_1 (by rw [hc0]; decide) (by rw [hc0]; decide) (by rw [hc0]; rfl) (by decide) ?_
    refine lv_aload_n hx hb dX5_counted_60 rfl (lv_at hl 0 rfl) ?_
    refine va_get hx hb hts inX5 hown hK hP 0 rfl rfl 0 (by decide) (hts _ qw967) (fun _ h9 => h9) rfl dX5_counted_61 ?_
    refine lv_iload_n hx hb dX5_counted_64 rfl (lv_at hl 1 rfl) ?_
    obtain ⟨v1, ev1, h⟩ := obind h
    refine k_iald hx hb hK hP 1 rfl ev1 dX5_counted_65 ?_
    obtain rfl := Option.some.inj h
    exact W.iret hx hb hr (fun t ht hW => ⟨rfl, ht⟩) (fun q hq => absurd hq List.not_mem_nil) dX5_counted_66
  · have h := iteF hc0 h
    by_cases hc1 : a1 = (1 : Int32)
    · have h := iteT hc1 h
      refine lv_tableIn (tgt := 60) hx hb dX5_counted_1 (by rw [hc1]; decide) (by rw [hc1]; decide) (by rw [hc1]; rfl) (by decide) ?_
      refine lv_aload_n hx hb dX5_counted_60 rfl (lv_at hl 0 rfl) ?_
      refine va_get hx hb hts inX5 hown hK hP 0 rfl rfl 0 (by decide) (hts _ qw967) (fun _ h9 => h9) rfl dX5_counted_61 ?_
      refine lv_iload_n hx hb dX5_counted_64 rfl (lv_at hl 1 rfl) ?_
      obtain ⟨v2, ev2, h⟩ := obind h
      refine k_iald hx hb hK hP 1 rfl ev2 dX5_counted_65 ?_
      obtain rfl := Option.some.inj h
      exact W.iret hx hb hr (fun t ht hW => ⟨rfl, ht⟩) (fun q hq => absurd hq List.not_mem_nil) dX5_counted_66
    · have h := iteF hc1 h
      by_cases hc2 : a1 = (2 : Int32)
      · have h := iteT hc2 h
        refine lv_tableIn (tgt := 67) hx hb dX5_counted_1 (by rw [hc2]; decide) (by rw [hc2]; decide) (by rw [hc2]; rfl) (by decide) ?_
        refine lv_aload_n hx hb dX5_counted_67 rfl (lv_at hl 0 rfl) ?_
        refine va_get hx hb hts inX5 hown hK hP 0 rfl rfl 0 (by decide) (hts _ qw967) (fun _ h9 => h9) rfl dX5_counted_68 ?_
        refine lv_iconst (v := (2)) hx hb dX5_counted_71 (by decide) ?_
        obtain ⟨v3, ev3, h⟩ := obind h
        refine k_iald hx hb hK hP 1 rfl ev3 dX5_counted_72 ?_
        refine lv_bipush (v := (8)) hx hb dX5_counted_73 (by decide) ?_
        refine lv_irem hx hb dX5_counted_75 (by decide) ?_
        obtain rfl := Option.some.inj h
        exact W.iret hx hb hr (fun t ht hW => ⟨rfl, ht⟩) (fun q hq => absurd hq List.not_mem_nil) dX5_counted_76
      · have h := iteF hc2 h
        by_cases hc3 : a1 = (3 : Int32)
        · have h := iteT hc3 h
          refine lv_tableIn (tgt := 77) hx hb dX5_counted_1 (by rw [hc3]; decide) (by rw [hc3]; decide) (by rw [hc3]; rfl) (by decide) ?_
          refine lv_aload_n hx hb dX5_counted_77 rfl (lv_at hl 0 rfl) ?_
          refine va_get hx hb hts inX5 hown hK hP 0 rfl rfl 0 (by decide) (hts _ qw967) (fun _ h9 => h9) rfl dX5_counted_78 ?_
          refine lv_iconst (v := (2)) hx hb dX5_counted_81 (by decide) ?_
          obtain ⟨v4, ev4, h⟩ := obind h
          refine k_iald hx hb hK hP 1 rfl ev4 dX5_counted_82 ?_
          refine lv_bipush (v := (8)) hx hb dX5_counted_83 (by decide) ?_
          refine lv_idiv hx hb dX5_counted_85 (by decide) ?_
          obtain rfl := Option.some.inj h
          exact W.iret hx hb hr (fun t ht hW => ⟨rfl, ht⟩) (fun q hq => absurd hq List.not_mem_nil) dX5_counted_86
        · have h := iteF hc3 h
          by_cases hc4 : a1 = (4 : Int32)
          · have h := iteT hc4 h
            refine lv_tableIn (tgt := 87) hx hb dX5_counted_1 (by rw [hc4]; decide) (by rw [hc4]; decide) (by rw [hc4]; rfl) (by decide) ?_
            refine lv_aload_n hx hb dX5_counted_87 rfl (lv_at hl 0 rfl) ?_
            obtain ⟨r5, er5, h⟩ := obind h
            refine call_R (va_runV (As := []) (rest := []) ⟨hx, hb, hml, hown, hts⟩ (c_X5_walls l z0 D t A μ _ er5) (kV hts qw1035 qw1037 qs35 qw9 qw1038 ok_X5_walls ⟨Nat.le_of_ble_eq_true rfl, Nat.le_of_ble_eq_true rfl⟩) ⟨PR.blind, va_recv hK hP (ci := 6) (q0 := 0) rfl rfl, fun U hU hW => ⟨rfl, by rw [hU]; exact hC.warm hW, by rw [hU]; exact hP⟩⟩ rfl rfl hl.1 rfl (lv_room (Nat.le_of_ble_eq_true rfl)) dX5_counted_88 ⟨Nat.le_of_ble_eq_true rfl, Nat.le_of_ble_eq_true rfl⟩) ?_
            obtain rfl := Option.some.inj h
            exact W.iret hx hb hr (fun t ht hW => ⟨rfl, ht⟩) (fun q hq => absurd hq List.not_mem_nil) dX5_counted_91
          · have h := iteF hc4 h
            by_cases hc5 : a1 = (5 : Int32)
            · have h := iteT hc5 h
              refine lv_tableIn (tgt := 92) hx hb dX5_counted_1 (by rw [hc5]; decide) (by rw [hc5]; decide) (by rw [hc5]; rfl) (by decide) ?_
              refine lv_aload_n hx hb dX5_counted_92 rfl (lv_at hl 0 rfl) ?_
              refine va_get hx hb hts inX5 hown hK hP 0 rfl rfl 0 (by decide) (hts _ qw967) (fun _ h9 => h9) rfl dX5_counted_93 ?_
              refine lv_sipush (v := (131)) hx hb dX5_counted_96 (by decide) ?_
              obtain ⟨v6, ev6, h⟩ := obind h
              refine k_iald hx hb hK hP 1 rfl ev6 dX5_counted_99 ?_
              obtain rfl := Option.some.inj h
              exact W.iret hx hb hr (fun t ht hW => ⟨rfl, ht⟩) (fun q hq => absurd hq List.not_mem_nil) dX5_counted_100
            · have h := iteF hc5 h
              by_cases hc6 : a1 = (6 : Int32)
              · have h := iteT hc6 h
                refine lv_tableIn (tgt := 101) hx hb dX5_counted_1 (by rw [hc6]; decide) (by rw [hc6]; decide) (by rw [hc6]; rfl) (by decide) ?_
                refine lv_aload_n hx hb dX5_counted_101 rfl (lv_at hl 0 rfl) ?_
                obtain ⟨r7, er7, h⟩ := obind h
                refine call_R (va_runV (As := []) (rest := []) ⟨hx, hb, hml, hown, hts⟩ (c_X5_free l z0 D t A μ _ er7) (kV hts qw1138 qw1140 qs51 qw9 qw1141 ok_X5_free ⟨Nat.le_of_ble_eq_true rfl, Nat.le_of_ble_eq_true rfl⟩) ⟨PR.blind, va_recv hK hP (ci := 6) (q0 := 0) rfl rfl, fun U hU hW => ⟨rfl, by rw [hU]; exact hC.warm hW, by rw [hU]; exact hP⟩⟩ rfl rfl hl.1 rfl (lv_room (Nat.le_of_ble_eq_true rfl)) dX5_counted_102 ⟨Nat.le_of_ble_eq_true rfl, Nat.le_of_ble_eq_true rfl⟩) ?_
                obtain rfl := Option.some.inj h
                exact W.iret hx hb hr (fun t ht hW => ⟨rfl, ht⟩) (fun q hq => absurd hq List.not_mem_nil) dX5_counted_105
              · have h := iteF hc6 h
                by_cases hc7 : a1 = (7 : Int32)
                · have h := iteT hc7 h
                  refine lv_tableIn (tgt := 106) hx hb dX5_counted_1 (by rw [hc7]; decide) (by rw [hc7]; decide) (by rw [hc7]; rfl) (by decide) ?_
                  refine lv_aload_n hx hb dX5_counted_106 rfl (lv_at hl 0 rfl) ?_
                  refine lv_iconst (v := (-1)) hx hb dX5_counted_107 (by decide) ?_
                  refine lv_iconst (v := (0)) hx hb dX5_counted_108 (by decide) ?_
                  obtain ⟨r8, er8, h⟩ := obind h
                  refine call_R (va_runV (As := [.int (-1 : Int32), .int (0 : Int32)]) (rest := []) ⟨hx, hb, hml, hown, hts⟩ (c_X5_could l z0 D t A μ (-1 : Int32) (0 : Int32) _ er8) (kV hts qw1162 qw1164 qs53 qw9 qw1165 ok_X5_could ⟨Nat.le_of_ble_eq_true rfl, Nat.le_of_ble_eq_true rfl⟩) ⟨PR.blind, va_recv hK hP (ci := 6) (q0 := 0) rfl rfl, fun U hU hW => ⟨rfl, by rw [hU]; exact hC.warm hW, by rw [hU]; exact hP⟩⟩ rfl rfl hl.1 rfl (lv_room (Nat.le_of_ble_eq_true rfl)) dX5_counted_109 ⟨Nat.le_of_ble_eq_true rfl, Nat.le_of_ble_eq_true rfl⟩) ?_
                  obtain rfl := Option.some.inj h
                  exact W.iret hx hb hr (fun t ht hW => ⟨rfl, ht⟩) (fun q hq => absurd hq List.not_mem_nil) dX5_counted_112
                · have h := iteF hc7 h
                  by_cases hc8 : a1 = (8 : Int32)
                  · have h := iteT hc8 h
                    refine lv_tableIn (tgt := 113) hx hb dX5_counted_1 (by rw [hc8]; decide) (by rw [hc8]; decide) (by rw [hc8]; rfl) (by decide) ?_
                    refine lv_aload_n hx hb dX5_counted_113 rfl (lv_at hl 0 rfl) ?_
                    obtain ⟨r9, er9, h⟩ := obind h
                    refine call_R (va_runV (As := []) (rest := []) ⟨hx, hb, hml, hown, hts⟩ (c_X5_flippable l z0 D t A μ _ er9) (kV hts qw1189 qw1191 qs56 qw9 qw1192 ok_X5_flippable ⟨Nat.le_of_ble_eq_true rfl, Nat.le_of_ble_eq_true rfl⟩) ⟨PR.blind, va_recv hK hP (ci := 6) (q0 := 0) rfl rfl, fun U hU hW => ⟨rfl, by rw [hU]; exact hC.warm hW, by rw [hU]; exact hP⟩⟩ rfl rfl hl.1 rfl (lv_room (Nat.le_of_ble_eq_true rfl)) dX5_counted_114 ⟨Nat.le_of_ble_eq_true rfl, Nat.le_of_ble_eq_true rfl⟩) ?_
                    obtain rfl := Option.some.inj h
                    exact W.iret hx hb hr (fun t ht hW => ⟨rfl, ht⟩) (fun q hq => absurd hq List.not_mem_nil) dX5_counted_117
                  · have h := iteF hc8 h
                    by_cases hc9 : a1 = (9 : Int32)
                    · have h := iteT hc9 h
                      refine lv_tableIn (tgt := 118) hx hb dX5_counted_1 (by rw [hc9]; decide) (by rw [hc9]; decide) (by rw [hc9]; rfl) (by decide) ?_
                      refine lv_aload_n hx hb dX5_counted_118 rfl (lv_at hl 0 rfl) ?_
                      refine va_get hx hb hts inX5 hown hK hP 0 rfl rfl 0 (by decide) (hts _ qw967) (fun _ h9 => h9) rfl dX5_counted_119 ?_
                      refine lv_sipush (v := (195)) hx hb dX5_counted_122 (by decide) ?_
                      obtain ⟨v10, ev10, h⟩ := obind h
                      refine k_iald hx hb hK hP 1 rfl ev10 dX5_counted_125 ?_
                      obtain rfl := Option.some.inj h
                      exact W.iret hx hb hr (fun t ht hW => ⟨rfl, ht⟩) (fun q hq => absurd hq List.not_mem_nil) dX5_counted_126
                    · have h := iteF hc9 h
                      by_cases hc10 : a1 = (10 : Int32)
                      · have h := iteT hc10 h
                        refine lv_tableIn (tgt := 127) hx hb dX5_counted_1 (by rw [hc10]; decide) (by rw [hc10]; decide) (by rw [hc10]; rfl) (by decide) ?_
                        refine lv_aload_n hx hb dX5_counted_127 rfl (lv_at hl 0 rfl) ?_
                        refine va_get hx hb hts inX5 hown hK hP 0 rfl rfl 0 (by decide) (hts _ qw967) (fun _ h9 => h9) rfl dX5_counted_128 ?_
                        refine lv_sipush (v := (196)) hx hb dX5_counted_131 (by decide) ?_
                        obtain ⟨v11, ev11, h⟩ := obind h
                        refine k_iald hx hb hK hP 1 rfl ev11 dX5_counted_134 ?_
                        obtain rfl := Option.some.inj h
                        exact W.iret hx hb hr (fun t ht hW => ⟨rfl, ht⟩) (fun q hq => absurd hq List.not_mem_nil) dX5_counted_135
                      · have h := iteF hc10 h
                        refine lv_tableOut (tgt := 136) hx hb dX5_counted_1 (sw_out2 (n := 11) (by decide) (by decide) (by decide) (fun k9 hk9 => by rcases (show k9 = 0 ∨ k9 = 1 ∨ k9 = 2 ∨ k9 = 3 ∨ k9 = 4 ∨ k9 = 5 ∨ k9 = 6 ∨ k9 = 7 ∨ k9 = 8 ∨ k9 = 9 ∨ k9 = 10 by omega) with rfl | rfl | rfl | rfl | rfl | rfl | rfl | rfl | rfl | rfl | rfl <;> assumption)) (by decide) ?_
                        refine lv_aload_n hx hb dX5_counted_136 rfl (lv_at hl 0 rfl) ?_
                        refine va_get hx hb hts inX5 hown hK hP 0 rfl rfl 1 (by decide) (hts _ qw968) (fun _ h9 => h9) rfl dX5_counted_137 ?_
                        obtain rfl := Option.some.inj h
                        exact W.iret hx hb hr (fun t ht hW => ⟨rfl, ht⟩) (fun q hq => absurd hq List.not_mem_nil) dX5_counted_140

abbrev rm_X5_count : Room := { frames := 4, cells := 0, slots := 0, locals := 116 }
theorem ok_X5_count : okY yX5_count 1 := ⟨by decide +kernel, by decide +kernel, by decide +kernel⟩
set_option maxHeartbeats 4000000 in
set_option maxRecDepth 100000 in
theorem c_X5_count (l : Launch) (z0 : Nat) (D : va_G) (t : Nat → ClassId) (A : Nat → Nat) (μ : MS) (a1 : Int32) (res : Int32 × (Int32)) (sz : Nat) (h : f_X5_count μ a1 = some res) : Met l yX5_count (ws_ yX5_count cX5_count 2 (some .int)) rm_X5_count (PM z0 D t [.ref (A 0), .int a1] (MW A t μ) (ML A) sz) (QM (some (.int res.1)) D (MW A t (m_thrown' μ res.2)) (ML A) sz) 0 0 (OA (ML A) sz) := by
  refine Met.ofW (cc := cX5_count) (maxL := 2) (ret := (some .int)) (by decide) rfl ?_
  intro p e s m args below meth c s₁ Bo hml hv
  obtain ⟨rfl, hC, hsz, hP, hD, hZ⟩ := hv
  have hx := Bo.exec
  have hb := Bo.bytes
  have hr := Bo.returns
  have hts : ∀ w ∈ LA, w.before _ s = true := fun w hw => atoms_spec (ws := ws_ yX5_count cX5_count 2 (some .int)) Bo.pre w (List.mem_cons_of_mem _ hw)
  have hown : s.vm.findClass RX5 = some m.cls := findClass_of_methodNamed Bo.named
  have hlocks := Bo.notSynchronized
  have hK := hC.1
  subst hsz
  have hl := lv_entry ([.ref (A 0), .int a1]) (n := 2) (Nat.le_of_ble_eq_true rfl)
  rw [lg_entry_eq]
  generalize (lg_sl ([.ref (A 0), .int a1]) ++ List.replicate (2 - (lg_sl ([.ref (A 0), .int a1])).length) Slot.unset).toArray = ls at hl ⊢
  have hl : lv_has ls 2 [(0, .ref (A 0)), (1, .int a1)] := hl
  suffices K9 : ∀ (H : Heap) (locs : List Loc), va_P D vwCl (MW A t μ) H → va_S (OA (ML A) s.heap.size) s.heap H locs → W p l e (headSpec (ws_ yX5_count cX5_count 2 (some .int)) rm_X5_count).room s m ([.ref (A 0), .int a1] : List Value).toArray below meth c H locs 0 0 (MQ below (QM (some (.int res.1)) D (MW A t (m_thrown' μ res.2)) (ML A) s.heap.size) ([.ref (A 0), .int a1] : List Value).toArray s 0 0 (OA (ML A) s.heap.size)) (F0 m 0 ls []) from K9 s.heap [] hP va_S.rf
  intro H locs hP hS
  have hSz : s.heap.size ≤ H.size := hS.1
  unfold f_X5_count at h
  refine lv_aload_n hx hb dX5_count_0 rfl (lv_at hl 0 rfl) ?_
  refine lv_iload_n hx hb dX5_count_1 rfl (lv_at hl 1 rfl) ?_
  refine lv_iconst (v := (0)) hx hb dX5_count_2 (by decide) ?_
  refine lv_bipush (v := (11)) hx hb dX5_count_3 (by decide) ?_
  obtain ⟨r1, er1, h⟩ := obind h
  refine call_R (va_runS (As := [.int a1, .int (0 : Int32), .int (11 : Int32)]) (rest := [.ref (A 0)]) ⟨hx, hb, hml, hown, hts⟩ (c_X5_in l z0 D t a1 (0 : Int32) (11 : Int32) _ er1) (kS hts qw1008 qw1009 qw9 qw1010 ok_X5_in ⟨Nat.le_of_ble_eq_true rfl, Nat.le_of_ble_eq_true rfl⟩) ⟨PR.blind, fun U hU hW => ⟨rfl, by rw [hU]; exact (hC.at hS hZ).warm hW, by rw [hU]; exact va_P_nil⟩⟩ rfl rfl hl.1 rfl (lv_room (Nat.le_of_ble_eq_true rfl)) dX5_count_5 ⟨Nat.le_of_ble_eq_true rfl, Nat.le_of_ble_eq_true rfl⟩) ?_
  refine lv_iconst (v := (1)) hx hb dX5_count_8 (by decide) ?_
  obtain ⟨r2, er2, h⟩ := obind h
  refine call_M (va_runV (As := [.int r1, .int (1 : Int32)]) (rest := []) ⟨hx, hb, hml, hown, hts⟩ (c_X5_goes l z0 D t A μ r1 (1 : Int32) _ H.size er2) (kV hts qw1011 qw1013 qs31 qw9 qw1014 ok_X5_goes ⟨Nat.le_of_ble_eq_true rfl, Nat.le_of_ble_eq_true rfl⟩) ⟨PM.blind, va_recv hK hP (ci := 6) (q0 := 0) rfl rfl, fun U hU hW => ⟨rfl, by rw [hU]; exact (hC.at hS hZ).warm hW, by rw [hU], by rw [hU]; exact hP, ⟨hD.1, fun _ _ h9 => Or.inl (in_map (L := (ML A)) rfl h9)⟩, fun q hq => hZ q (OA.ofD hD rfl hSz q hq)⟩⟩ rfl rfl hl.1 rfl (lv_room (Nat.le_of_ble_eq_true rfl)) dX5_count_9 ⟨Nat.le_of_ble_eq_true rfl, Nat.le_of_ble_eq_true rfl⟩) hS (OA.ofD hD rfl hSz) (fun H locs hP hD1 hS _ _ => ?_)
  have hP : va_P D vwCl (MW A t (m_thrown' μ r2.2)) H := hP
  have hD : va_D (OA (ML A) s.heap.size) (MW A t (m_thrown' μ r2.2)) := hD1.weaken (fun _ q _ h9 => OA.ofD hD rfl hSz q.1 h9)
  have hSz : s.heap.size ≤ H.size := hS.1
  refine lv_if_eq (tgt := 23) hx hb dX5_count_12 (by decide) (fun hc => ?_) (fun hc => ?_)
  · have h := iteT hc h
    refine lv_iconst (v := (0)) hx hb dX5_count_23 (by decide) ?_
    obtain rfl := Option.some.inj h
    exact W.iret hx hb hr (fun t ht hW => ⟨rfl, by rw [ht]; exact hP, hD, hS.F ht⟩) hS.2.2 dX5_count_24
  · have h := iteF hc h
    refine lv_aload_n hx hb dX5_count_15 rfl (lv_at hl 0 rfl) ?_
    refine lv_iload_n hx hb dX5_count_16 rfl (lv_at hl 1 rfl) ?_
    obtain ⟨r3, er3, h⟩ := obind h
    refine call_R (va_runV (As := [.int a1]) (rest := []) ⟨hx, hb, hml, hown, hts⟩ (c_X5_counted l z0 D t A (m_thrown' μ r2.2) a1 _ er3) (kV hts qw1185 qw1187 qs55 qw9 qw1188 ok_X5_counted ⟨Nat.le_of_ble_eq_true rfl, Nat.le_of_ble_eq_true rfl⟩) ⟨PR.blind, va_recv hK hP (ci := 6) (q0 := 0) rfl rfl, fun U hU hW => ⟨rfl, by rw [hU]; exact (hC.at hS hZ).warm hW, by rw [hU]; exact hP⟩⟩ rfl rfl hl.1 rfl (lv_room (Nat.le_of_ble_eq_true rfl)) dX5_count_17 ⟨Nat.le_of_ble_eq_true rfl, Nat.le_of_ble_eq_true rfl⟩) ?_
    refine lv_goto (tgt := 24) hx hb dX5_count_20 (by decide) ?_
    obtain rfl := Option.some.inj h
    exact W.iret hx hb hr (fun t ht hW => ⟨rfl, by rw [ht]; exact hP, hD, hS.F ht⟩) hS.2.2 dX5_count_24
