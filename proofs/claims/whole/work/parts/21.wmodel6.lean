abbrev rm_X5_whyNot : Room := { frames := 2, cells := 0, slots := 0, locals := 68 }
theorem ok_X5_whyNot : okY yX5_whyNot 3 := ⟨by decide +kernel, by decide +kernel, by decide +kernel⟩
set_option maxHeartbeats 4000000 in
set_option maxRecDepth 100000 in
theorem c_X5_whyNot (l : Launch) (z0 : Nat) (D : va_G) (t : Nat → ClassId) (A : Nat → Nat) (μ : MS) (a1 : Int32) (a2 : Int32) (a3 : Int32) (res : Int32 × (Int32)) (sz : Nat) (h : f_X5_whyNot μ a1 a2 a3 = some res) : Met l yX5_whyNot (ws_ yX5_whyNot cX5_whyNot 4 (some .int)) rm_X5_whyNot (PM z0 D t [.ref (A 0), .int a1, .int a2, .int a3] (MW A t μ) (ML A) sz) (QM (some (.int res.1)) D (MW A t (m_thrown' μ res.2)) (ML A) sz) 0 0 (OA (ML A) sz) := by
  refine Met.ofW (cc := cX5_whyNot) (maxL := 4) (ret := (some .int)) (by decide) rfl ?_
  intro p e s m args below meth c s₁ Bo hml hv
  obtain ⟨rfl, hC, hsz, hP, hD, hZ⟩ := hv
  have hx := Bo.exec
  have hb := Bo.bytes
  have hr := Bo.returns
  have hts : ∀ w ∈ LA, w.before _ s = true := fun w hw => atoms_spec (ws := ws_ yX5_whyNot cX5_whyNot 4 (some .int)) Bo.pre w (List.mem_cons_of_mem _ hw)
  have hown : s.vm.findClass RX5 = some m.cls := findClass_of_methodNamed Bo.named
  have hlocks := Bo.notSynchronized
  have hK := hC.1
  subst hsz
  have hl := lv_entry ([.ref (A 0), .int a1, .int a2, .int a3]) (n := 4) (Nat.le_of_ble_eq_true rfl)
  rw [lg_entry_eq]
  generalize (lg_sl ([.ref (A 0), .int a1, .int a2, .int a3]) ++ List.replicate (4 - (lg_sl ([.ref (A 0), .int a1, .int a2, .int a3])).length) Slot.unset).toArray = ls at hl ⊢
  have hl : lv_has ls 4 [(0, .ref (A 0)), (1, .int a1), (2, .int a2), (3, .int a3)] := hl
  suffices K9 : ∀ (H : Heap) (locs : List Loc), va_P D vwCl (MW A t μ) H → va_S (OA (ML A) s.heap.size) s.heap H locs → W p l e (headSpec (ws_ yX5_whyNot cX5_whyNot 4 (some .int)) rm_X5_whyNot).room s m ([.ref (A 0), .int a1, .int a2, .int a3] : List Value).toArray below meth c H locs 0 0 (MQ below (QM (some (.int res.1)) D (MW A t (m_thrown' μ res.2)) (ML A) s.heap.size) ([.ref (A 0), .int a1, .int a2, .int a3] : List Value).toArray s 0 0 (OA (ML A) s.heap.size)) (F0 m 0 ls []) from K9 s.heap [] hP va_S.rf
  intro H locs hP hS
  have hSz : s.heap.size ≤ H.size := hS.1
  unfold f_X5_whyNot at h
  refine lv_aload_n hx hb dX5_whyNot_0 rfl (lv_at hl 0 rfl) ?_
  refine lv_iload_n hx hb dX5_whyNot_1 rfl (lv_at hl 3 rfl) ?_
  refine lv_iconst (v := (0)) hx hb dX5_whyNot_2 (by decide) ?_
  refine lv_iconst (v := (3)) hx hb dX5_whyNot_3 (by decide) ?_
  obtain ⟨r1, er1, h⟩ := obind h
  refine call_R (va_runS (As := [.int a3, .int (0 : Int32), .int (3 : Int32)]) (rest := [.ref (A 0)]) ⟨hx, hb, hml, hown, hts⟩ (c_X5_in l z0 D t a3 (0 : Int32) (3 : Int32) _ er1) (kS hts qw1008 qw1009 qw9 qw1010 ok_X5_in ⟨Nat.le_of_ble_eq_true rfl, Nat.le_of_ble_eq_true rfl⟩) ⟨PR.blind, fun U hU hW => ⟨rfl, by rw [hU]; exact (hC.at hS hZ).warm hW, by rw [hU]; exact va_P_nil⟩⟩ rfl rfl hl.1 rfl (lv_room (Nat.le_of_ble_eq_true rfl)) dX5_whyNot_4 ⟨Nat.le_of_ble_eq_true rfl, Nat.le_of_ble_eq_true rfl⟩) ?_
  refine lv_iconst (v := (1)) hx hb dX5_whyNot_7 (by decide) ?_
  obtain ⟨r2, er2, h⟩ := obind h
  refine call_M (va_runV (As := [.int r1, .int (1 : Int32)]) (rest := []) ⟨hx, hb, hml, hown, hts⟩ (c_X5_goes l z0 D t A μ r1 (1 : Int32) _ H.size er2) (kV hts qw1011 qw1013 qs31 qw9 qw1014 ok_X5_goes ⟨Nat.le_of_ble_eq_true rfl, Nat.le_of_ble_eq_true rfl⟩) ⟨PM.blind, va_recv hK hP (ci := 6) (q0 := 0) rfl rfl, fun U hU hW => ⟨rfl, by rw [hU]; exact (hC.at hS hZ).warm hW, by rw [hU], by rw [hU]; exact hP, ⟨hD.1, fun _ _ h9 => Or.inl (in_map (L := (ML A)) rfl h9)⟩, fun q hq => hZ q (OA.ofD hD rfl hSz q hq)⟩⟩ rfl rfl hl.1 rfl (lv_room (Nat.le_of_ble_eq_true rfl)) dX5_whyNot_8 ⟨Nat.le_of_ble_eq_true rfl, Nat.le_of_ble_eq_true rfl⟩) hS (OA.ofD hD rfl hSz) (fun H locs hP hD1 hS _ _ => ?_)
  have hP : va_P D vwCl (MW A t (m_thrown' μ r2.2)) H := hP
  have hD : va_D (OA (ML A) s.heap.size) (MW A t (m_thrown' μ r2.2)) := hD1.weaken (fun _ q _ h9 => OA.ofD hD rfl hSz q.1 h9)
  have hSz : s.heap.size ≤ H.size := hS.1
  refine lv_if_eq (tgt := 25) hx hb dX5_whyNot_11 (by decide) (fun hc => ?_) (fun hc => ?_)
  · have h := iteT hc h
    refine lv_iconst (v := (0)) hx hb dX5_whyNot_25 (by decide) ?_
    obtain rfl := Option.some.inj h
    exact W.iret hx hb hr (fun t ht hW => ⟨rfl, by rw [ht]; exact hP, hD, hS.F ht⟩) hS.2.2 dX5_whyNot_26
  · have h := iteF hc h
    refine lv_aload_n hx hb dX5_whyNot_14 rfl (lv_at hl 0 rfl) ?_
    refine lv_iconst (v := (0)) hx hb dX5_whyNot_15 (by decide) ?_
    refine lv_iload_n hx hb dX5_whyNot_16 rfl (lv_at hl 1 rfl) ?_
    refine lv_iload_n hx hb dX5_whyNot_17 rfl (lv_at hl 2 rfl) ?_
    refine lv_iload_n hx hb dX5_whyNot_18 rfl (lv_at hl 3 rfl) ?_
    obtain ⟨r3, er3, h⟩ := obind h
    refine call_R (va_runV (As := [.int (0 : Int32), .int a1, .int a2, .int a3]) (rest := []) ⟨hx, hb, hml, hown, hts⟩ (c_X5_wrong l z0 D t A (m_thrown' μ r2.2) (0 : Int32) a1 a2 a3 _ er3) (kV hts qw1043 qw1045 qs36 qw9 qw1046 ok_X5_wrong ⟨Nat.le_of_ble_eq_true rfl, Nat.le_of_ble_eq_true rfl⟩) ⟨PR.blind, va_recv hK hP (ci := 6) (q0 := 0) rfl rfl, fun U hU hW => ⟨rfl, by rw [hU]; exact (hC.at hS hZ).warm hW, by rw [hU]; exact hP⟩⟩ rfl rfl hl.1 rfl (lv_room (Nat.le_of_ble_eq_true rfl)) dX5_whyNot_19 ⟨Nat.le_of_ble_eq_true rfl, Nat.le_of_ble_eq_true rfl⟩) ?_
    refine lv_goto (tgt := 26) hx hb dX5_whyNot_22 (by decide) ?_
    obtain rfl := Option.some.inj h
    exact W.iret hx hb hr (fun t ht hW => ⟨rfl, by rw [ht]; exact hP, hD, hS.F ht⟩) hS.2.2 dX5_whyNot_26

abbrev rm_X5_ways : Room := { frames := 4, cells := 0, slots := 0, locals := 123 }
theorem ok_X5_ways : okY yX5_ways 0 := ⟨by decide +kernel, by decide +kernel, by decide +kernel⟩
set_option maxHeartbeats 4000000 in
set_option maxRecDepth 100000 in
theorem c_X5_ways (l : Launch) (z0 : Nat) (D : va_G) (t : Nat → ClassId) (A : Nat → Nat) (μ : MS) (res : Int32 × (Int32) × (Nat → Int32) × (Nat → Int32)) (sz : Nat) (h : f_X5_ways μ = some res) : Met l yX5_ways (ws_ yX5_ways cX5_ways 1 (some .int)) rm_X5_ways (PM z0 D t [.ref (A 0)] (MW A t μ) (ML A) sz) (QM (some (.int res.1)) D (MW A t (m_next' (m_ways' (m_thrown' μ res.2.1) res.2.2.1) res.2.2.2)) (ML A) sz) 0 0 (OA (ML A) sz) := by
  refine Met.ofW (cc := cX5_ways) (maxL := 1) (ret := (some .int)) (by decide) rfl ?_
  intro p e s m args below meth c s₁ Bo hml hv
  obtain ⟨rfl, hC, hsz, hP, hD, hZ⟩ := hv
  have hx := Bo.exec
  have hb := Bo.bytes
  have hr := Bo.returns
  have hts : ∀ w ∈ LA, w.before _ s = true := fun w hw => atoms_spec (ws := ws_ yX5_ways cX5_ways 1 (some .int)) Bo.pre w (List.mem_cons_of_mem _ hw)
  have hown : s.vm.findClass RX5 = some m.cls := findClass_of_methodNamed Bo.named
  have hlocks := Bo.notSynchronized
  have hK := hC.1
  subst hsz
  have hl := lv_entry ([.ref (A 0)]) (n := 1) (Nat.le_of_ble_eq_true rfl)
  rw [lg_entry_eq]
  generalize (lg_sl ([.ref (A 0)]) ++ List.replicate (1 - (lg_sl ([.ref (A 0)])).length) Slot.unset).toArray = ls at hl ⊢
  have hl : lv_has ls 1 [(0, .ref (A 0))] := hl
  suffices K9 : ∀ (H : Heap) (locs : List Loc), va_P D vwCl (MW A t μ) H → va_S (OA (ML A) s.heap.size) s.heap H locs → W p l e (headSpec (ws_ yX5_ways cX5_ways 1 (some .int)) rm_X5_ways).room s m ([.ref (A 0)] : List Value).toArray below meth c H locs 0 0 (MQ below (QM (some (.int res.1)) D (MW A t (m_next' (m_ways' (m_thrown' μ res.2.1) res.2.2.1) res.2.2.2)) (ML A) s.heap.size) ([.ref (A 0)] : List Value).toArray s 0 0 (OA (ML A) s.heap.size)) (F0 m 0 ls []) from K9 s.heap [] hP va_S.rf
  intro H locs hP hS
  have hSz : s.heap.size ≤ H.size := hS.1
  unfold f_X5_ways at h
  refine lv_aload_n hx hb dX5_ways_0 rfl (lv_at hl 0 rfl) ?_
  refine lv_iconst (v := (0)) hx hb dX5_ways_1 (by decide) ?_
  refine va_put (D := D) (ci := 6) (v := .int (0 : Int32)) (ty := .int) hx hb hts inX5 tyX5 tyX5_ok nmX5 hown hK hP hD hS 0 rfl rfl 3 (by decide) (hts _ qw970) (fun _ h9 => h9) rfl (by decide +kernel) rfl rfl (Nat.le_of_ble_eq_true rfl) dX5_ways_2 (fun H locs hP hD hS => ?_)
  have hP : va_P D vwCl (MW A t (m_thrown' μ (0 : Int32))) H := hP
  have hD : va_D (OA (ML A) s.heap.size) (MW A t (m_thrown' μ (0 : Int32))) := hD
  have hSz : s.heap.size ≤ H.size := hS.1
  refine lv_aload_n hx hb dX5_ways_5 rfl (lv_at hl 0 rfl) ?_
  refine lv_iconst (v := (0)) hx hb dX5_ways_6 (by decide) ?_
  obtain ⟨r1, er1, h⟩ := obind h
  refine call_M (va_runV (As := [.int (0 : Int32)]) (rest := []) ⟨hx, hb, hml, hown, hts⟩ (c_X5_paves l z0 D t A (m_thrown' μ (0 : Int32)) (0 : Int32) _ H.size er1) (kV hts qw1078 qw1080 qs41 qw9 qw1081 ok_X5_paves ⟨Nat.le_of_ble_eq_true rfl, Nat.le_of_ble_eq_true rfl⟩) ⟨PM.blind, va_recv hK hP (ci := 6) (q0 := 0) rfl rfl, fun U hU hW => ⟨rfl, by rw [hU]; exact (hC.at hS hZ).warm hW, by rw [hU], by rw [hU]; exact hP, ⟨hD.1, fun _ _ h9 => Or.inl (in_map (L := (ML A)) rfl h9)⟩, fun q hq => hZ q (OA.ofD hD rfl hSz q hq)⟩⟩ rfl rfl hl.1 rfl (lv_room (Nat.le_of_ble_eq_true rfl)) dX5_ways_7 ⟨Nat.le_of_ble_eq_true rfl, Nat.le_of_ble_eq_true rfl⟩) hS (OA.ofD hD rfl hSz) (fun H locs hP hD1 hS _ _ => ?_)
  have hP : va_P D vwCl (MW A t (m_next' (m_ways' (m_thrown' μ (0 : Int32)) r1.2.1) r1.2.2)) H := hP
  have hD : va_D (OA (ML A) s.heap.size) (MW A t (m_next' (m_ways' (m_thrown' μ (0 : Int32)) r1.2.1) r1.2.2)) := hD1.weaken (fun _ q _ h9 => OA.ofD hD rfl hSz q.1 h9)
  have hSz : s.heap.size ≤ H.size := hS.1
  obtain rfl := Option.some.inj h
  exact W.iret hx hb hr (fun t ht hW => ⟨rfl, by rw [ht]; exact hP, hD, hS.F ht⟩) hS.2.2 dX5_ways_10

abbrev rm_X5_with : Room := { frames := 4, cells := 0, slots := 0, locals := 123 }
theorem ok_X5_with : okY yX5_with 3 := ⟨by decide +kernel, by decide +kernel, by decide +kernel⟩
set_option maxHeartbeats 4000000 in
set_option maxRecDepth 100000 in
theorem c_X5_with (l : Launch) (z0 : Nat) (D : va_G) (t : Nat → ClassId) (A : Nat → Nat) (μ : MS) (a1 : Int32) (a2 : Int32) (a3 : Int32) (res : Int32 × (Nat → Int32) × (Nat → Int32) × (Nat → Int32)) (sz : Nat) (h : f_X5_with μ a1 a2 a3 = some res) : Met l yX5_with (ws_ yX5_with cX5_with 4 (some .int)) rm_X5_with (PM z0 D t [.ref (A 0), .int a1, .int a2, .int a3] (MW A t μ) (ML A) sz) (QM (some (.int res.1)) D (MW A t (m_next' (m_ways' (m_s' μ res.2.1) res.2.2.1) res.2.2.2)) (ML A) sz) 0 0 (OA (ML A) sz) := by
  refine Met.ofW (cc := cX5_with) (maxL := 4) (ret := (some .int)) (by decide) rfl ?_
  intro p e s m args below meth c s₁ Bo hml hv
  obtain ⟨rfl, hC, hsz, hP, hD, hZ⟩ := hv
  have hx := Bo.exec
  have hb := Bo.bytes
  have hr := Bo.returns
  have hts : ∀ w ∈ LA, w.before _ s = true := fun w hw => atoms_spec (ws := ws_ yX5_with cX5_with 4 (some .int)) Bo.pre w (List.mem_cons_of_mem _ hw)
  have hown : s.vm.findClass RX5 = some m.cls := findClass_of_methodNamed Bo.named
  have hlocks := Bo.notSynchronized
  have hK := hC.1
  subst hsz
  have hl := lv_entry ([.ref (A 0), .int a1, .int a2, .int a3]) (n := 4) (Nat.le_of_ble_eq_true rfl)
  rw [lg_entry_eq]
  generalize (lg_sl ([.ref (A 0), .int a1, .int a2, .int a3]) ++ List.replicate (4 - (lg_sl ([.ref (A 0), .int a1, .int a2, .int a3])).length) Slot.unset).toArray = ls at hl ⊢
  have hl : lv_has ls 4 [(0, .ref (A 0)), (1, .int a1), (2, .int a2), (3, .int a3)] := hl
  suffices K9 : ∀ (H : Heap) (locs : List Loc), va_P D vwCl (MW A t μ) H → va_S (OA (ML A) s.heap.size) s.heap H locs → W p l e (headSpec (ws_ yX5_with cX5_with 4 (some .int)) rm_X5_with).room s m ([.ref (A 0), .int a1, .int a2, .int a3] : List Value).toArray below meth c H locs 0 0 (MQ below (QM (some (.int res.1)) D (MW A t (m_next' (m_ways' (m_s' μ res.2.1) res.2.2.1) res.2.2.2)) (ML A) s.heap.size) ([.ref (A 0), .int a1, .int a2, .int a3] : List Value).toArray s 0 0 (OA (ML A) s.heap.size)) (F0 m 0 ls []) from K9 s.heap [] hP va_S.rf
  intro H locs hP hS
  have hSz : s.heap.size ≤ H.size := hS.1
  unfold f_X5_with at h
  refine lv_aload_n hx hb dX5_with_0 rfl (lv_at hl 0 rfl) ?_
  refine lv_iconst (v := (0)) hx hb dX5_with_1 (by decide) ?_
  refine lv_iload_n hx hb dX5_with_2 rfl (lv_at hl 1 rfl) ?_
  refine lv_iload_n hx hb dX5_with_3 rfl (lv_at hl 2 rfl) ?_
  refine lv_iload_n hx hb dX5_with_4 rfl (lv_at hl 3 rfl) ?_
  obtain ⟨r1, er1, h⟩ := obind h
  refine call_R (va_runV (As := [.int (0 : Int32), .int a1, .int a2, .int a3]) (rest := []) ⟨hx, hb, hml, hown, hts⟩ (c_X5_wrong l z0 D t A μ (0 : Int32) a1 a2 a3 _ er1) (kV hts qw1043 qw1045 qs36 qw9 qw1046 ok_X5_wrong ⟨Nat.le_of_ble_eq_true rfl, Nat.le_of_ble_eq_true rfl⟩) ⟨PR.blind, va_recv hK hP (ci := 6) (q0 := 0) rfl rfl, fun U hU hW => ⟨rfl, by rw [hU]; exact (hC.at hS hZ).warm hW, by rw [hU]; exact hP⟩⟩ rfl rfl hl.1 rfl (lv_room (Nat.le_of_ble_eq_true rfl)) dX5_with_5 ⟨Nat.le_of_ble_eq_true rfl, Nat.le_of_ble_eq_true rfl⟩) ?_
  refine lv_if_le (tgt := 13) hx hb dX5_with_8 (by decide) (fun hc => ?_) (fun hc => ?_)
  · have h := iteT hc h
    refine lv_aload_n hx hb dX5_with_13 rfl (lv_at hl 0 rfl) ?_
    refine lv_iconst (v := (0)) hx hb dX5_with_14 (by decide) ?_
    refine lv_bipush (v := (9)) hx hb dX5_with_15 (by decide) ?_
    obtain ⟨r2, er2, h⟩ := obind h
    refine call_M (va_runV (As := [.int (0 : Int32), .int (9 : Int32)]) (rest := []) ⟨hx, hb, hml, hown, hts⟩ (c_X5_copies l z0 D t A μ (0 : Int32) (9 : Int32) _ H.size er2) (kV hts qw1019 qw1021 qs33 qw9 qw1022 ok_X5_copies ⟨Nat.le_of_ble_eq_true rfl, Nat.le_of_ble_eq_true rfl⟩) ⟨PM.blind, va_recv hK hP (ci := 6) (q0 := 0) rfl rfl, fun U hU hW => ⟨rfl, by rw [hU]; exact (hC.at hS hZ).warm hW, by rw [hU], by rw [hU]; exact hP, ⟨hD.1, fun _ _ h9 => Or.inl (in_map (L := (ML A)) rfl h9)⟩, fun q hq => hZ q (OA.ofD hD rfl hSz q hq)⟩⟩ rfl rfl hl.1 rfl (lv_room (Nat.le_of_ble_eq_true rfl)) dX5_with_17 ⟨Nat.le_of_ble_eq_true rfl, Nat.le_of_ble_eq_true rfl⟩) hS (OA.ofD hD rfl hSz) (fun H locs hP hD1 hS _ _ => ?_)
    have hP : va_P D vwCl (MW A t (m_s' μ r2)) H := hP
    have hD : va_D (OA (ML A) s.heap.size) (MW A t (m_s' μ r2)) := hD1.weaken (fun _ q _ h9 => OA.ofD hD rfl hSz q.1 h9)
    have hSz : s.heap.size ≤ H.size := hS.1
    refine lv_aload_n hx hb dX5_with_20 rfl (lv_at hl 0 rfl) ?_
    refine lv_sipush (v := (1773)) hx hb dX5_with_21 (by decide) ?_
    refine lv_iload_n hx hb dX5_with_24 rfl (lv_at hl 1 rfl) ?_
    refine lv_iload_n hx hb dX5_with_25 rfl (lv_at hl 2 rfl) ?_
    refine lv_iload_n hx hb dX5_with_26 rfl (lv_at hl 3 rfl) ?_
    obtain ⟨r3, er3, h⟩ := obind h
    refine call_M (va_runV (As := [.int (1773 : Int32), .int a1, .int a2, .int a3]) (rest := []) ⟨hx, hb, hml, hown, hts⟩ (c_X5_lays l z0 D t A (m_s' μ r2) (1773 : Int32) a1 a2 a3 _ H.size er3) (kV hts qw1050 qw1052 qs37 qw9 qw1053 ok_X5_lays ⟨Nat.le_of_ble_eq_true rfl, Nat.le_of_ble_eq_true rfl⟩) ⟨PM.blind, va_recv hK hP (ci := 6) (q0 := 0) rfl rfl, fun U hU hW => ⟨rfl, by rw [hU]; exact (hC.at hS hZ).warm hW, by rw [hU], by rw [hU]; exact hP, ⟨hD.1, fun _ _ h9 => Or.inl (in_map (L := (ML A)) rfl h9)⟩, fun q hq => hZ q (OA.ofD hD rfl hSz q hq)⟩⟩ rfl rfl hl.1 rfl (lv_room (Nat.le_of_ble_eq_true rfl)) dX5_with_27 ⟨Nat.le_of_ble_eq_true rfl, Nat.le_of_ble_eq_true rfl⟩) hS (OA.ofD hD rfl hSz) (fun H locs hP hD1 hS _ _ => ?_)
    have hP : va_P D vwCl (MW A t (m_s' μ r3)) H := hP
    have hD : va_D (OA (ML A) s.heap.size) (MW A t (m_s' μ r3)) := hD1.weaken (fun _ q _ h9 => OA.ofD hD rfl hSz q.1 h9)
    have hSz : s.heap.size ≤ H.size := hS.1
    refine lv_aload_n hx hb dX5_with_30 rfl (lv_at hl 0 rfl) ?_
    refine lv_sipush (v := (1773)) hx hb dX5_with_31 (by decide) ?_
    obtain ⟨r4, er4, h⟩ := obind h
    refine call_M (va_runV (As := [.int (1773 : Int32)]) (rest := []) ⟨hx, hb, hml, hown, hts⟩ (c_X5_paves l z0 D t A (m_s' μ r3) (1773 : Int32) _ H.size er4) (kV hts qw1078 qw1080 qs41 qw9 qw1081 ok_X5_paves ⟨Nat.le_of_ble_eq_true rfl, Nat.le_of_ble_eq_true rfl⟩) ⟨PM.blind, va_recv hK hP (ci := 6) (q0 := 0) rfl rfl, fun U hU hW => ⟨rfl, by rw [hU]; exact (hC.at hS hZ).warm hW, by rw [hU], by rw [hU]; exact hP, ⟨hD.1, fun _ _ h9 => Or.inl (in_map (L := (ML A)) rfl h9)⟩, fun q hq => hZ q (OA.ofD hD rfl hSz q hq)⟩⟩ rfl rfl hl.1 rfl (lv_room (Nat.le_of_ble_eq_true rfl)) dX5_with_34 ⟨Nat.le_of_ble_eq_true rfl, Nat.le_of_ble_eq_true rfl⟩) hS (OA.ofD hD rfl hSz) (fun H locs hP hD1 hS _ _ => ?_)
    have hP : va_P D vwCl (MW A t (m_next' (m_ways' (m_s' μ r3) r4.2.1) r4.2.2)) H := hP
    have hD : va_D (OA (ML A) s.heap.size) (MW A t (m_next' (m_ways' (m_s' μ r3) r4.2.1) r4.2.2)) := hD1.weaken (fun _ q _ h9 => OA.ofD hD rfl hSz q.1 h9)
    have hSz : s.heap.size ≤ H.size := hS.1
    obtain rfl := Option.some.inj h
    exact W.iret hx hb hr (fun t ht hW => ⟨rfl, by rw [ht]; exact hP, hD, hS.F ht⟩) hS.2.2 dX5_with_37
  · have h := iteF hc h
    refine lv_iconst (v := (-1)) hx hb dX5_with_11 (by decide) ?_
    obtain rfl := Option.some.inj h
    exact W.iret hx hb hr (fun t ht hW => ⟨rfl, by rw [ht]; exact hP, hD, hS.F ht⟩) hS.2.2 dX5_with_12

abbrev rm_X5_waysWith : Room := { frames := 5, cells := 0, slots := 0, locals := 146 }
theorem ok_X5_waysWith : okY yX5_waysWith 3 := ⟨by decide +kernel, by decide +kernel, by decide +kernel⟩
set_option maxHeartbeats 4000000 in
set_option maxRecDepth 100000 in
theorem c_X5_waysWith (l : Launch) (z0 : Nat) (D : va_G) (t : Nat → ClassId) (A : Nat → Nat) (μ : MS) (a1 : Int32) (a2 : Int32) (a3 : Int32) (res : Int32 × (Nat → Int32) × (Int32) × (Nat → Int32) × (Nat → Int32)) (sz : Nat) (h : f_X5_waysWith μ a1 a2 a3 = some res) : Met l yX5_waysWith (ws_ yX5_waysWith cX5_waysWith 4 (some .int)) rm_X5_waysWith (PM z0 D t [.ref (A 0), .int a1, .int a2, .int a3] (MW A t μ) (ML A) sz) (QM (some (.int res.1)) D (MW A t (m_next' (m_ways' (m_thrown' (m_s' μ res.2.1) res.2.2.1) res.2.2.2.1) res.2.2.2.2)) (ML A) sz) 0 0 (OA (ML A) sz) := by
  refine Met.ofW (cc := cX5_waysWith) (maxL := 4) (ret := (some .int)) (by decide) rfl ?_
  intro p e s m args below meth c s₁ Bo hml hv
  obtain ⟨rfl, hC, hsz, hP, hD, hZ⟩ := hv
  have hx := Bo.exec
  have hb := Bo.bytes
  have hr := Bo.returns
  have hts : ∀ w ∈ LA, w.before _ s = true := fun w hw => atoms_spec (ws := ws_ yX5_waysWith cX5_waysWith 4 (some .int)) Bo.pre w (List.mem_cons_of_mem _ hw)
  have hown : s.vm.findClass RX5 = some m.cls := findClass_of_methodNamed Bo.named
  have hlocks := Bo.notSynchronized
  have hK := hC.1
  subst hsz
  have hl := lv_entry ([.ref (A 0), .int a1, .int a2, .int a3]) (n := 4) (Nat.le_of_ble_eq_true rfl)
  rw [lg_entry_eq]
  generalize (lg_sl ([.ref (A 0), .int a1, .int a2, .int a3]) ++ List.replicate (4 - (lg_sl ([.ref (A 0), .int a1, .int a2, .int a3])).length) Slot.unset).toArray = ls at hl ⊢
  have hl : lv_has ls 4 [(0, .ref (A 0)), (1, .int a1), (2, .int a2), (3, .int a3)] := hl
  suffices K9 : ∀ (H : Heap) (locs : List Loc), va_P D vwCl (MW A t μ) H → va_S (OA (ML A) s.heap.size) s.heap H locs → W p l e (headSpec (ws_ yX5_waysWith cX5_waysWith 4 (some .int)) rm_X5_waysWith).room s m ([.ref (A 0), .int a1, .int a2, .int a3] : List Value).toArray below meth c H locs 0 0 (MQ below (QM (some (.int res.1)) D (MW A t (m_next' (m_ways' (m_thrown' (m_s' μ res.2.1) res.2.2.1) res.2.2.2.1) res.2.2.2.2)) (ML A) s.heap.size) ([.ref (A 0), .int a1, .int a2, .int a3] : List Value).toArray s 0 0 (OA (ML A) s.heap.size)) (F0 m 0 ls []) from K9 s.heap [] hP va_S.rf
  intro H locs hP hS
  have hSz : s.heap.size ≤ H.size := hS.1
  unfold f_X5_waysWith at h
  refine lv_aload_n hx hb dX5_waysWith_0 rfl (lv_at hl 0 rfl) ?_
  refine lv_iload_n hx hb dX5_waysWith_1 rfl (lv_at hl 3 rfl) ?_
  refine lv_iconst (v := (0)) hx hb dX5_waysWith_2 (by decide) ?_
  refine lv_iconst (v := (3)) hx hb dX5_waysWith_3 (by decide) ?_
  obtain ⟨r1, er1, h⟩ := obind h
  refine call_R (va_runS (As := [.int a3, .int (0 : Int32), .int (3 : Int32)]) (rest := [.ref (A 0)]) ⟨hx, hb, hml, hown, hts⟩ (c_X5_in l z0 D t a3 (0 : Int32) (3 : Int32) _ er1) (kS hts qw1008 qw1009 qw9 qw1010 ok_X5_in ⟨Nat.le_of_ble_eq_true rfl, Nat.le_of_ble_eq_true rfl⟩) ⟨PR.blind, fun U hU hW => ⟨rfl, by rw [hU]; exact (hC.at hS hZ).warm hW, by rw [hU]; exact va_P_nil⟩⟩ rfl rfl hl.1 rfl (lv_room (Nat.le_of_ble_eq_true rfl)) dX5_waysWith_4 ⟨Nat.le_of_ble_eq_true rfl, Nat.le_of_ble_eq_true rfl⟩) ?_
  refine lv_iconst (v := (1)) hx hb dX5_waysWith_7 (by decide) ?_
  obtain ⟨r2, er2, h⟩ := obind h
  refine call_M (va_runV (As := [.int r1, .int (1 : Int32)]) (rest := []) ⟨hx, hb, hml, hown, hts⟩ (c_X5_goes l z0 D t A μ r1 (1 : Int32) _ H.size er2) (kV hts qw1011 qw1013 qs31 qw9 qw1014 ok_X5_goes ⟨Nat.le_of_ble_eq_true rfl, Nat.le_of_ble_eq_true rfl⟩) ⟨PM.blind, va_recv hK hP (ci := 6) (q0 := 0) rfl rfl, fun U hU hW => ⟨rfl, by rw [hU]; exact (hC.at hS hZ).warm hW, by rw [hU], by rw [hU]; exact hP, ⟨hD.1, fun _ _ h9 => Or.inl (in_map (L := (ML A)) rfl h9)⟩, fun q hq => hZ q (OA.ofD hD rfl hSz q hq)⟩⟩ rfl rfl hl.1 rfl (lv_room (Nat.le_of_ble_eq_true rfl)) dX5_waysWith_8 ⟨Nat.le_of_ble_eq_true rfl, Nat.le_of_ble_eq_true rfl⟩) hS (OA.ofD hD rfl hSz) (fun H locs hP hD1 hS _ _ => ?_)
  have hP : va_P D vwCl (MW A t (m_thrown' μ r2.2)) H := hP
  have hD : va_D (OA (ML A) s.heap.size) (MW A t (m_thrown' μ r2.2)) := hD1.weaken (fun _ q _ h9 => OA.ofD hD rfl hSz q.1 h9)
  have hSz : s.heap.size ≤ H.size := hS.1
  refine lv_if_eq (tgt := 24) hx hb dX5_waysWith_11 (by decide) (fun hc => ?_) (fun hc => ?_)
  · have h := iteT hc h
    refine lv_iconst (v := (0)) hx hb dX5_waysWith_24 (by decide) ?_
    obtain rfl := Option.some.inj h
    exact W.iret hx hb hr (fun t ht hW => ⟨rfl, by rw [ht]; exact hP, hD, hS.F ht⟩) hS.2.2 dX5_waysWith_25
  · have h := iteF hc h
    refine lv_aload_n hx hb dX5_waysWith_14 rfl (lv_at hl 0 rfl) ?_
    refine lv_iload_n hx hb dX5_waysWith_15 rfl (lv_at hl 1 rfl) ?_
    refine lv_iload_n hx hb dX5_waysWith_16 rfl (lv_at hl 2 rfl) ?_
    refine lv_iload_n hx hb dX5_waysWith_17 rfl (lv_at hl 3 rfl) ?_
    obtain ⟨r3, er3, h⟩ := obind h
    refine call_M (va_runV (As := [.int a1, .int a2, .int a3]) (rest := []) ⟨hx, hb, hml, hown, hts⟩ (c_X5_with l z0 D t A (m_thrown' μ r2.2) a1 a2 a3 _ H.size er3) (kV hts qw1205 qw1207 qs57 qw9 qw1208 ok_X5_with ⟨Nat.le_of_ble_eq_true rfl, Nat.le_of_ble_eq_true rfl⟩) ⟨PM.blind, va_recv hK hP (ci := 6) (q0 := 0) rfl rfl, fun U hU hW => ⟨rfl, by rw [hU]; exact (hC.at hS hZ).warm hW, by rw [hU], by rw [hU]; exact hP, ⟨hD.1, fun _ _ h9 => Or.inl (in_map (L := (ML A)) rfl h9)⟩, fun q hq => hZ q (OA.ofD hD rfl hSz q hq)⟩⟩ rfl rfl hl.1 rfl (lv_room (Nat.le_of_ble_eq_true rfl)) dX5_waysWith_18 ⟨Nat.le_of_ble_eq_true rfl, Nat.le_of_ble_eq_true rfl⟩) hS (OA.ofD hD rfl hSz) (fun H locs hP hD1 hS _ _ => ?_)
    have hP : va_P D vwCl (MW A t (m_next' (m_ways' (m_thrown' (m_s' μ r3.2.1) r2.2) r3.2.2.1) r3.2.2.2)) H := hP
    have hD : va_D (OA (ML A) s.heap.size) (MW A t (m_next' (m_ways' (m_thrown' (m_s' μ r3.2.1) r2.2) r3.2.2.1) r3.2.2.2)) := hD1.weaken (fun _ q _ h9 => OA.ofD hD rfl hSz q.1 h9)
    have hSz : s.heap.size ≤ H.size := hS.1
    refine lv_goto (tgt := 25) hx hb dX5_waysWith_21 (by decide) ?_
    obtain rfl := Option.some.inj h
    exact W.iret hx hb hr (fun t ht hW => ⟨rfl, by rw [ht]; exact hP, hD, hS.F ht⟩) hS.2.2 dX5_waysWith_25

abbrev rm_X5_firstWith : Room := { frames := 3, cells := 0, slots := 0, locals := 95 }
theorem ok_X5_firstWith : okY yX5_firstWith 1 := ⟨by decide +kernel, by decide +kernel, by decide +kernel⟩
set_option maxHeartbeats 4000000 in
set_option maxRecDepth 100000 in
theorem c_X5_firstWith (l : Launch) (z0 : Nat) (D : va_G) (t : Nat → ClassId) (A : Nat → Nat) (μ : MS) (a1 : Int32) (res : Int32) (h : f_X5_firstWith μ a1 = some res) : Met l yX5_firstWith (ws_ yX5_firstWith cX5_firstWith 4 (some .int)) rm_X5_firstWith (PR z0 D t [.ref (A 0), .int a1] (MW A t μ)) (QR (some (.int res))) 0 0 FN := by
  refine Met.ofW (cc := cX5_firstWith) (maxL := 4) (ret := (some .int)) (by decide) rfl ?_
  intro p e s m args below meth c s₁ Bo hml hv
  obtain ⟨rfl, hC, hP⟩ := hv
  have hx := Bo.exec
  have hb := Bo.bytes
  have hr := Bo.returns
  have hts : ∀ w ∈ LA, w.before _ s = true := fun w hw => atoms_spec (ws := ws_ yX5_firstWith cX5_firstWith 4 (some .int)) Bo.pre w (List.mem_cons_of_mem _ hw)
  have hown : s.vm.findClass RX5 = some m.cls := findClass_of_methodNamed Bo.named
  have hlocks := Bo.notSynchronized
  have hK := hC.1
  have hl := lv_entry ([.ref (A 0), .int a1]) (n := 4) (Nat.le_of_ble_eq_true rfl)
  rw [lg_entry_eq]
  generalize (lg_sl ([.ref (A 0), .int a1]) ++ List.replicate (4 - (lg_sl ([.ref (A 0), .int a1])).length) Slot.unset).toArray = ls at hl ⊢
  have hl : lv_has ls 4 [(0, .ref (A 0)), (1, .int a1)] := hl
  unfold f_X5_firstWith at h
  refine lv_iconst (v := (0)) hx hb dX5_firstWith_0 (by decide) ?_
  refine lv_istore_n (lv' := [(2, .int (0 : Int32)), (0, .ref (A 0)), (1, .int a1)]) hx hb dX5_firstWith_1 rfl hl (by decide) rfl (fun ls hl => ?_)
  obtain ⟨o37, eo37, h⟩ := obind h
  have hL2 : ∀ (n : Nat) (y2_2 : Int32) (o37 : (Unit) ⊕ (Int32)), f_X5_firstWith_L2 a1 μ n y2_2 = some o37 → (∀ o37l, o37 = .inl o37l → ∀ (ls : Array Slot), lv_has ls 4 [] → W p l e (headSpec (ws_ yX5_firstWith cX5_firstWith 4 (some .int)) rm_X5_firstWith).room s m ([.ref (A 0), .int a1] : List Value).toArray below meth c s.heap [] 0 0 (MQ below (QR (some (.int res))) ([.ref (A 0), .int a1] : List Value).toArray s 0 0 FN) (F0 m 72 ls [])) → (∀ r9, o37 = .inr r9 → r9 = res) → ∀ (ls : Array Slot), lv_has ls 4 [(0, .ref (A 0)), (1, .int a1), (2, .int y2_2)] → W p l e (headSpec (ws_ yX5_firstWith cX5_firstWith 4 (some .int)) rm_X5_firstWith).room s m ([.ref (A 0), .int a1] : List Value).toArray below meth c s.heap [] 0 0 (MQ below (QR (some (.int res))) ([.ref (A 0), .int a1] : List Value).toArray s 0 0 FN) (F0 m 2 ls []) := by
    intro n
    induction n with
    | zero => intro y2_2 o37 h; exact absurd h (fun z => by cases z)
    | succ n ih =>
      intro y2_2 o37 h hK2 hR2 ls hl
      replace h : f_X5_firstWith_L2_b a1 μ (f_X5_firstWith_L2 a1 μ n) y2_2 = some o37 := h
      unfold f_X5_firstWith_L2_b at h
      refine lv_iload_n hx hb dX5_firstWith_2 rfl (lv_at hl 2 rfl) ?_
      refine lv_aload_n hx hb dX5_firstWith_3 rfl (lv_at hl 0 rfl) ?_
      refine va_get hx hb hts inX5 hown hK hP 0 rfl rfl 0 (by decide) (hts _ qw967) (fun _ h9 => h9) rfl dX5_firstWith_4 ?_
      refine lv_iconst (v := (1)) hx hb dX5_firstWith_7 (by decide) ?_
      obtain ⟨v38, ev38, h⟩ := obind h
      refine k_iald hx hb hK hP 1 rfl ev38 dX5_firstWith_8 ?_
      refine lv_icmp_ge (tgt := 72) hx hb dX5_firstWith_9 (by decide) (fun hc => ?_) (fun hc => ?_)
      · have h := iteT hc h
        obtain rfl := Option.some.inj h
        exact hK2 _ rfl ls (lv_sub hl [] rfl)
      · have h := iteF hc h
        refine lv_iconst (v := (0)) hx hb dX5_firstWith_12 (by decide) ?_
        refine lv_istore_n (lv' := [(3, .int (0 : Int32)), (0, .ref (A 0)), (1, .int a1), (2, .int y2_2)]) hx hb dX5_firstWith_13 rfl hl (by decide) rfl (fun ls hl => ?_)
        obtain ⟨o49, eo49, h⟩ := obind h
        have hL14 : ∀ (n : Nat) (y3_14 : Int32) (o49 : (Unit) ⊕ (Int32)), f_X5_firstWith_L14 a1 μ y2_2 n y3_14 = some o49 → (∀ o49l, o49 = .inl o49l → ∀ (ls : Array Slot), lv_has ls 4 [(0, .ref (A 0)), (1, .int a1), (2, .int y2_2)] → W p l e (headSpec (ws_ yX5_firstWith cX5_firstWith 4 (some .int)) rm_X5_firstWith).room s m ([.ref (A 0), .int a1] : List Value).toArray below meth c s.heap [] 0 0 (MQ below (QR (some (.int res))) ([.ref (A 0), .int a1] : List Value).toArray s 0 0 FN) (F0 m 66 ls [])) → (∀ r9, o49 = .inr r9 → r9 = res) → ∀ (ls : Array Slot), lv_has ls 4 [(0, .ref (A 0)), (1, .int a1), (2, .int y2_2), (3, .int y3_14)] → W p l e (headSpec (ws_ yX5_firstWith cX5_firstWith 4 (some .int)) rm_X5_firstWith).room s m ([.ref (A 0), .int a1] : List Value).toArray below meth c s.heap [] 0 0 (MQ below (QR (some (.int res))) ([.ref (A 0), .int a1] : List Value).toArray s 0 0 FN) (F0 m 14 ls []) := by
          intro n
          induction n with
          | zero => intro y3_14 o49 h; exact absurd h (fun z => by cases z)
          | succ n ih =>
            intro y3_14 o49 h hK14 hR14 ls hl
            replace h : f_X5_firstWith_L14_b a1 μ y2_2 (f_X5_firstWith_L14 a1 μ y2_2 n) y3_14 = some o49 := h
            unfold f_X5_firstWith_L14_b at h
            refine lv_iload_n hx hb dX5_firstWith_14 rfl (lv_at hl 3 rfl) ?_
            refine lv_aload_n hx hb dX5_firstWith_15 rfl (lv_at hl 0 rfl) ?_
            refine va_get hx hb hts inX5 hown hK hP 0 rfl rfl 0 (by decide) (hts _ qw967) (fun _ h9 => h9) rfl dX5_firstWith_16 ?_
            refine lv_iconst (v := (0)) hx hb dX5_firstWith_19 (by decide) ?_
            obtain ⟨v50, ev50, h⟩ := obind h
            refine k_iald hx hb hK hP 1 rfl ev50 dX5_firstWith_20 ?_
            refine lv_icmp_ge (tgt := 66) hx hb dX5_firstWith_21 (by decide) (fun hc => ?_) (fun hc => ?_)
            · have h := iteT hc h
              obtain rfl := Option.some.inj h
              exact hK14 _ rfl ls (lv_sub hl [0, 1, 2] rfl)
            · have h := iteF hc h
              refine lv_aload_n hx hb dX5_firstWith_24 rfl (lv_at hl 0 rfl) ?_
              refine lv_iconst (v := (0)) hx hb dX5_firstWith_25 (by decide) ?_
              refine lv_bipush (v := (8)) hx hb dX5_firstWith_26 (by decide) ?_
              refine lv_iload_n hx hb dX5_firstWith_28 rfl (lv_at hl 2 rfl) ?_
              refine lv_imul hx hb dX5_firstWith_29 ?_
              refine lv_iload_n hx hb dX5_firstWith_30 rfl (lv_at hl 3 rfl) ?_
              refine lv_iadd hx hb dX5_firstWith_31 ?_
              obtain ⟨r51, er51, h⟩ := obind h
              refine call_R (va_runV (As := [.int (0 : Int32), .int (((8 : Int32) * y2_2) + y3_14)]) (rest := []) ⟨hx, hb, hml, hown, hts⟩ (c_X5_isFree l z0 D t A μ (0 : Int32) (((8 : Int32) * y2_2) + y3_14) _ er51) (kV hts qw1090 qw1092 qs44 qw9 qw1093 ok_X5_isFree ⟨Nat.le_of_ble_eq_true rfl, Nat.le_of_ble_eq_true rfl⟩) ⟨PR.blind, va_recv hK hP (ci := 6) (q0 := 0) rfl rfl, fun U hU hW => ⟨rfl, by rw [hU]; exact hC.warm hW, by rw [hU]; exact hP⟩⟩ rfl rfl hl.1 rfl (lv_room (Nat.le_of_ble_eq_true rfl)) dX5_firstWith_32 ⟨Nat.le_of_ble_eq_true rfl, Nat.le_of_ble_eq_true rfl⟩) ?_
              refine lv_if_eq (tgt := 60) hx hb dX5_firstWith_35 (by decide) (fun hc => ?_) (fun hc => ?_)
              · have h := iteT hc h
                obtain ⟨x52, ex52, h⟩ := jlet_some h
                refine lv_iinc (v := x52) (lv' := [(3, .int x52), (0, .ref (A 0)), (1, .int a1), (2, .int y2_2)]) hx hb dX5_firstWith_60 hl (k := 3) rfl (by rw [ex52]; rfl) (by decide) rfl (fun ls hl => ?_)
                refine lv_goto (tgt := 14) hx hb dX5_firstWith_63 (by decide) ?_
                exact ih _ _ h hK14 hR14 ls (lv_sub hl [1, 2, 3, 0] rfl)
              · have h := iteF hc h
                refine lv_aload_n hx hb dX5_firstWith_38 rfl (lv_at hl 0 rfl) ?_
                refine lv_bipush (v := (8)) hx hb dX5_firstWith_39 (by decide) ?_
                refine lv_iload_n hx hb dX5_firstWith_41 rfl (lv_at hl 2 rfl) ?_
                refine lv_imul hx hb dX5_firstWith_42 ?_
                refine lv_iload_n hx hb dX5_firstWith_43 rfl (lv_at hl 3 rfl) ?_
                refine lv_iadd hx hb dX5_firstWith_44 ?_
                refine lv_iconst (v := (0)) hx hb dX5_firstWith_45 (by decide) ?_
                obtain ⟨r53, er53, h⟩ := obind h
                refine call_R (va_runV (As := [.int (((8 : Int32) * y2_2) + y3_14), .int (0 : Int32)]) (rest := []) ⟨hx, hb, hml, hown, hts⟩ (c_X5_could l z0 D t A μ (((8 : Int32) * y2_2) + y3_14) (0 : Int32) _ er53) (kV hts qw1162 qw1164 qs53 qw9 qw1165 ok_X5_could ⟨Nat.le_of_ble_eq_true rfl, Nat.le_of_ble_eq_true rfl⟩) ⟨PR.blind, va_recv hK hP (ci := 6) (q0 := 0) rfl rfl, fun U hU hW => ⟨rfl, by rw [hU]; exact hC.warm hW, by rw [hU]; exact hP⟩⟩ rfl rfl hl.1 rfl (lv_room (Nat.le_of_ble_eq_true rfl)) dX5_firstWith_46 ⟨Nat.le_of_ble_eq_true rfl, Nat.le_of_ble_eq_true rfl⟩) ?_
                refine lv_iload_n hx hb dX5_firstWith_49 rfl (lv_at hl 1 rfl) ?_
                refine lv_icmp_ne (tgt := 60) hx hb dX5_firstWith_50 (by decide) (fun hc => ?_) (fun hc => ?_)
                · have h := iteF hc h
                  obtain ⟨x54, ex54, h⟩ := jlet_some h
                  refine lv_iinc (v := x54) (lv' := [(3, .int x54), (0, .ref (A 0)), (1, .int a1), (2, .int y2_2)]) hx hb dX5_firstWith_60 hl (k := 3) rfl (by rw [ex54]; rfl) (by decide) rfl (fun ls hl => ?_)
                  refine lv_goto (tgt := 14) hx hb dX5_firstWith_63 (by decide) ?_
                  exact ih _ _ h hK14 hR14 ls (lv_sub hl [1, 2, 3, 0] rfl)
                · have h := iteT hc h
                  refine lv_bipush (v := (8)) hx hb dX5_firstWith_53 (by decide) ?_
                  refine lv_iload_n hx hb dX5_firstWith_55 rfl (lv_at hl 2 rfl) ?_
                  refine lv_imul hx hb dX5_firstWith_56 ?_
                  refine lv_iload_n hx hb dX5_firstWith_57 rfl (lv_at hl 3 rfl) ?_
                  refine lv_iadd hx hb dX5_firstWith_58 ?_
                  have e9 := hR14 _ (Option.some.inj h).symm
                  subst e9
                  exact W.iret hx hb hr (fun t ht hW => ⟨rfl, ht⟩) (fun q hq => absurd hq List.not_mem_nil) dX5_firstWith_59
        refine hL14 _ _ _ eo49 (fun o49l eq9 ls hl => ?_) (fun r9 eq9 => ?_) ls (lv_sub hl [1, 2, 3, 0] rfl)
        · subst eq9
          replace h := sumL h
          obtain ⟨x55, ex55, h⟩ := jlet_some h
          refine lv_iinc (v := x55) (lv' := [(2, .int x55), (0, .ref (A 0)), (1, .int a1)]) hx hb dX5_firstWith_66 hl (k := 2) rfl (by rw [ex55]; rfl) (by decide) rfl (fun ls hl => ?_)
          refine lv_goto (tgt := 2) hx hb dX5_firstWith_69 (by decide) ?_
          exact ih _ _ h hK2 hR2 ls (lv_sub hl [1, 2, 0] rfl)
        · subst eq9
          replace h := sumR h
          exact hR2 _ (Option.some.inj h).symm
  refine hL2 _ _ _ eo37 (fun o37l eq9 ls hl => ?_) (fun r9 eq9 => ?_) ls (lv_sub hl [1, 2, 0] rfl)
  · subst eq9
    replace h := sumL h
    refine lv_iconst (v := (-1)) hx hb dX5_firstWith_72 (by decide) ?_
    obtain rfl := Option.some.inj h
    exact W.iret hx hb hr (fun t ht hW => ⟨rfl, ht⟩) (fun q hq => absurd hq List.not_mem_nil) dX5_firstWith_73
  · subst eq9
    replace h := sumR h
    exact Option.some.inj h

abbrev rm_X5_told : Room := { frames := 0, cells := 0, slots := 0, locals := 0 }
theorem ok_X5_told : okY yX5_told 1 := ⟨by decide +kernel, by decide +kernel, by decide +kernel⟩
set_option maxHeartbeats 4000000 in
set_option maxRecDepth 100000 in
theorem c_X5_told (l : Launch) (z0 : Nat) (D : va_G) (t : Nat → ClassId) (a1 : Int32) (res : Int32) (h : f_X5_told a1 = some res) : Met l yX5_told (ws_ yX5_told cX5_told 1 (some .int)) rm_X5_told (PR z0 D t [.int a1] []) (QR (some (.int res))) 0 0 FN := by
  refine Met.ofW (cc := cX5_told) (maxL := 1) (ret := (some .int)) (by decide) rfl ?_
  intro p e s m args below meth c s₁ Bo hml hv
  obtain ⟨rfl, hC, hP⟩ := hv
  have hx := Bo.exec
  have hb := Bo.bytes
  have hr := Bo.returns
  have hts : ∀ w ∈ LA, w.before _ s = true := fun w hw => atoms_spec (ws := ws_ yX5_told cX5_told 1 (some .int)) Bo.pre w (List.mem_cons_of_mem _ hw)
  have hown : s.vm.findClass RX5 = some m.cls := findClass_of_methodNamed Bo.named
  have hlocks := Bo.notSynchronized
  have hK := hC.1
  have hl := lv_entry ([.int a1]) (n := 1) (Nat.le_of_ble_eq_true rfl)
  rw [lg_entry_eq]
  generalize (lg_sl ([.int a1]) ++ List.replicate (1 - (lg_sl ([.int a1])).length) Slot.unset).toArray = ls at hl ⊢
  have hl : lv_has ls 1 [(0, .int a1)] := hl
  unfold f_X5_told at h
  refine lv_iload_n hx hb dX5_told_0 rfl (lv_at hl 0 rfl) ?_
  refine lv_if_ge (tgt := 8) hx hb dX5_told_1 (by decide) (fun hc => ?_) (fun hc => ?_)
  · have h := iteT hc h
    refine lv_iload_n hx hb dX5_told_8 rfl (lv_at hl 0 rfl) ?_
    refine lv_bipush (v := (8)) hx hb dX5_told_9 (by decide) ?_
    refine lv_irem hx hb dX5_told_11 (by decide) ?_
    refine lv_bipush (v := (10)) hx hb dX5_told_12 (by decide) ?_
    refine lv_iload_n hx hb dX5_told_14 rfl (lv_at hl 0 rfl) ?_
    refine lv_bipush (v := (8)) hx hb dX5_told_15 (by decide) ?_
    refine lv_idiv hx hb dX5_told_17 (by decide) ?_
    refine lv_imul hx hb dX5_told_18 ?_
    refine lv_iadd hx hb dX5_told_19 ?_
    obtain rfl := Option.some.inj h
    exact W.iret hx hb hr (fun t ht hW => ⟨rfl, ht⟩) (fun q hq => absurd hq List.not_mem_nil) dX5_told_20
  · have h := iteF hc h
    refine lv_iconst (v := (-1)) hx hb dX5_told_4 (by decide) ?_
    refine lv_goto (tgt := 20) hx hb dX5_told_5 (by decide) ?_
    obtain rfl := Option.some.inj h
    exact W.iret hx hb hr (fun t ht hW => ⟨rfl, ht⟩) (fun q hq => absurd hq List.not_mem_nil) dX5_told_20

abbrev rm_X5_isForced : Room := { frames := 4, cells := 0, slots := 0, locals := 118 }
theorem ok_X5_isForced : okY yX5_isForced 1 := ⟨by decide +kernel, by decide +kernel, by decide +kernel⟩
set_option maxHeartbeats 4000000 in
set_option maxRecDepth 100000 in
theorem c_X5_isForced (l : Launch) (z0 : Nat) (D : va_G) (t : Nat → ClassId) (A : Nat → Nat) (μ : MS) (a1 : Int32) (res : Int32) (h : f_X5_isForced μ a1 = some res) : Met l yX5_isForced (ws_ yX5_isForced cX5_isForced 3 (some .int)) rm_X5_isForced (PR z0 D t [.ref (A 0), .int a1] (MW A t μ)) (QR (some (.int res))) 0 0 FN := by
  refine Met.ofW (cc := cX5_isForced) (maxL := 3) (ret := (some .int)) (by decide) rfl ?_
  intro p e s m args below meth c s₁ Bo hml hv
  obtain ⟨rfl, hC, hP⟩ := hv
  have hx := Bo.exec
  have hb := Bo.bytes
  have hr := Bo.returns
  have hts : ∀ w ∈ LA, w.before _ s = true := fun w hw => atoms_spec (ws := ws_ yX5_isForced cX5_isForced 3 (some .int)) Bo.pre w (List.mem_cons_of_mem _ hw)
  have hown : s.vm.findClass RX5 = some m.cls := findClass_of_methodNamed Bo.named
  have hlocks := Bo.notSynchronized
  have hK := hC.1
  have hl := lv_entry ([.ref (A 0), .int a1]) (n := 3) (Nat.le_of_ble_eq_true rfl)
  rw [lg_entry_eq]
  generalize (lg_sl ([.ref (A 0), .int a1]) ++ List.replicate (3 - (lg_sl ([.ref (A 0), .int a1])).length) Slot.unset).toArray = ls at hl ⊢
  have hl : lv_has ls 3 [(0, .ref (A 0)), (1, .int a1)] := hl
  unfold f_X5_isForced at h
  refine lv_aload_n hx hb dX5_isForced_0 rfl (lv_at hl 0 rfl) ?_
  refine lv_iconst (v := (1)) hx hb dX5_isForced_1 (by decide) ?_
  obtain ⟨r1, er1, h⟩ := obind h
  refine call_R (va_runV (As := [.int (1 : Int32)]) (rest := []) ⟨hx, hb, hml, hown, hts⟩ (c_X5_firstWith l z0 D t A μ (1 : Int32) _ er1) (kV hts qw1217 qw1219 qs59 qw9 qw1220 ok_X5_firstWith ⟨Nat.le_of_ble_eq_true rfl, Nat.le_of_ble_eq_true rfl⟩) ⟨PR.blind, va_recv hK hP (ci := 6) (q0 := 0) rfl rfl, fun U hU hW => ⟨rfl, by rw [hU]; exact hC.warm hW, by rw [hU]; exact hP⟩⟩ rfl rfl hl.1 rfl (lv_room (Nat.le_of_ble_eq_true rfl)) dX5_isForced_2 ⟨Nat.le_of_ble_eq_true rfl, Nat.le_of_ble_eq_true rfl⟩) ?_
  refine lv_istore_n (lv' := [(2, .int r1), (0, .ref (A 0)), (1, .int a1)]) hx hb dX5_isForced_5 rfl hl (by decide) rfl (fun ls hl => ?_)
  refine lv_iload_n hx hb dX5_isForced_6 rfl (lv_at hl 0 rfl) ?_
  refine lv_if_ge (tgt := 14) hx hb dX5_isForced_7 (by decide) (fun hc => ?_) (fun hc => ?_)
  · have h := iteT hc h
    refine lv_iload_n hx hb dX5_isForced_14 rfl (lv_at hl 2 rfl) ?_
    refine lv_if_ne (tgt := 25) hx hb dX5_isForced_15 (by decide) (fun hc => ?_) (fun hc => ?_)
    · have h := iteF hc h
      refine lv_aload_n hx hb dX5_isForced_25 rfl (lv_at hl 1 rfl) ?_
      refine lv_iload_n hx hb dX5_isForced_26 rfl (lv_at hl 0 rfl) ?_
      refine lv_iconst (v := (1)) hx hb dX5_isForced_27 (by decide) ?_
      obtain ⟨r2, er2, h⟩ := obind h
      refine call_R (va_runV (As := [.int r1, .int (1 : Int32)]) (rest := []) ⟨hx, hb, hml, hown, hts⟩ (c_X5_could l z0 D t A μ r1 (1 : Int32) _ er2) (kV hts qw1162 qw1164 qs53 qw9 qw1165 ok_X5_could ⟨Nat.le_of_ble_eq_true rfl, Nat.le_of_ble_eq_true rfl⟩) ⟨PR.blind, va_recv hK hP (ci := 6) (q0 := 0) rfl rfl, fun U hU hW => ⟨rfl, by rw [hU]; exact hC.warm hW, by rw [hU]; exact hP⟩⟩ rfl rfl hl.1 rfl (lv_room (Nat.le_of_ble_eq_true rfl)) dX5_isForced_28 ⟨Nat.le_of_ble_eq_true rfl, Nat.le_of_ble_eq_true rfl⟩) ?_
      obtain rfl := Option.some.inj h
      exact W.iret hx hb hr (fun t ht hW => ⟨rfl, ht⟩) (fun q hq => absurd hq List.not_mem_nil) dX5_isForced_31
    · have h := iteT hc h
      refine lv_iload_n hx hb dX5_isForced_18 rfl (lv_at hl 0 rfl) ?_
      obtain ⟨r3, er3, h⟩ := obind h
      refine call_R (va_runS (As := [.int r1]) (rest := []) ⟨hx, hb, hml, hown, hts⟩ (c_X5_told l z0 D t r1 _ er3) (kS hts qw1221 qw1222 qw9 qw1223 ok_X5_told ⟨Nat.le_of_ble_eq_true rfl, Nat.le_of_ble_eq_true rfl⟩) ⟨PR.blind, fun U hU hW => ⟨rfl, by rw [hU]; exact hC.warm hW, by rw [hU]; exact va_P_nil⟩⟩ rfl rfl hl.1 rfl (lv_room (Nat.le_of_ble_eq_true rfl)) dX5_isForced_19 ⟨Nat.le_of_ble_eq_true rfl, Nat.le_of_ble_eq_true rfl⟩) ?_
      refine lv_goto (tgt := 31) hx hb dX5_isForced_22 (by decide) ?_
      obtain rfl := Option.some.inj h
      exact W.iret hx hb hr (fun t ht hW => ⟨rfl, ht⟩) (fun q hq => absurd hq List.not_mem_nil) dX5_isForced_31
  · have h := iteF hc h
    refine lv_iconst (v := (-1)) hx hb dX5_isForced_10 (by decide) ?_
    refine lv_goto (tgt := 31) hx hb dX5_isForced_11 (by decide) ?_
    obtain rfl := Option.some.inj h
    exact W.iret hx hb hr (fun t ht hW => ⟨rfl, ht⟩) (fun q hq => absurd hq List.not_mem_nil) dX5_isForced_31

abbrev rm_X5_forced : Room := { frames := 5, cells := 0, slots := 0, locals := 140 }
theorem ok_X5_forced : okY yX5_forced 1 := ⟨by decide +kernel, by decide +kernel, by decide +kernel⟩
set_option maxHeartbeats 4000000 in
set_option maxRecDepth 100000 in
theorem c_X5_forced (l : Launch) (z0 : Nat) (D : va_G) (t : Nat → ClassId) (A : Nat → Nat) (μ : MS) (a1 : Int32) (res : Int32 × (Int32)) (sz : Nat) (h : f_X5_forced μ a1 = some res) : Met l yX5_forced (ws_ yX5_forced cX5_forced 2 (some .int)) rm_X5_forced (PM z0 D t [.ref (A 0), .int a1] (MW A t μ) (ML A) sz) (QM (some (.int res.1)) D (MW A t (m_thrown' μ res.2)) (ML A) sz) 0 0 (OA (ML A) sz) := by
  refine Met.ofW (cc := cX5_forced) (maxL := 2) (ret := (some .int)) (by decide) rfl ?_
  intro p e s m args below meth c s₁ Bo hml hv
  obtain ⟨rfl, hC, hsz, hP, hD, hZ⟩ := hv
  have hx := Bo.exec
  have hb := Bo.bytes
  have hr := Bo.returns
  have hts : ∀ w ∈ LA, w.before _ s = true := fun w hw => atoms_spec (ws := ws_ yX5_forced cX5_forced 2 (some .int)) Bo.pre w (List.mem_cons_of_mem _ hw)
  have hown : s.vm.findClass RX5 = some m.cls := findClass_of_methodNamed Bo.named
  have hlocks := Bo.notSynchronized
  have hK := hC.1
  subst hsz
  have hl := lv_entry ([.ref (A 0), .int a1]) (n := 2) (Nat.le_of_ble_eq_true rfl)
  rw [lg_entry_eq]
  generalize (lg_sl ([.ref (A 0), .int a1]) ++ List.replicate (2 - (lg_sl ([.ref (A 0), .int a1])).length) Slot.unset).toArray = ls at hl ⊢
  have hl : lv_has ls 2 [(0, .ref (A 0)), (1, .int a1)] := hl
  suffices K9 : ∀ (H : Heap) (locs : List Loc), va_P D vwCl (MW A t μ) H → va_S (OA (ML A) s.heap.size) s.heap H locs → W p l e (headSpec (ws_ yX5_forced cX5_forced 2 (some .int)) rm_X5_forced).room s m ([.ref (A 0), .int a1] : List Value).toArray below meth c H locs 0 0 (MQ below (QM (some (.int res.1)) D (MW A t (m_thrown' μ res.2)) (ML A) s.heap.size) ([.ref (A 0), .int a1] : List Value).toArray s 0 0 (OA (ML A) s.heap.size)) (F0 m 0 ls []) from K9 s.heap [] hP va_S.rf
  intro H locs hP hS
  have hSz : s.heap.size ≤ H.size := hS.1
  unfold f_X5_forced at h
  refine lv_aload_n hx hb dX5_forced_0 rfl (lv_at hl 0 rfl) ?_
  refine lv_iload_n hx hb dX5_forced_1 rfl (lv_at hl 1 rfl) ?_
  refine lv_iconst (v := (0)) hx hb dX5_forced_2 (by decide) ?_
  refine lv_iconst (v := (1)) hx hb dX5_forced_3 (by decide) ?_
  obtain ⟨r1, er1, h⟩ := obind h
  refine call_R (va_runS (As := [.int a1, .int (0 : Int32), .int (1 : Int32)]) (rest := [.ref (A 0)]) ⟨hx, hb, hml, hown, hts⟩ (c_X5_in l z0 D t a1 (0 : Int32) (1 : Int32) _ er1) (kS hts qw1008 qw1009 qw9 qw1010 ok_X5_in ⟨Nat.le_of_ble_eq_true rfl, Nat.le_of_ble_eq_true rfl⟩) ⟨PR.blind, fun U hU hW => ⟨rfl, by rw [hU]; exact (hC.at hS hZ).warm hW, by rw [hU]; exact va_P_nil⟩⟩ rfl rfl hl.1 rfl (lv_room (Nat.le_of_ble_eq_true rfl)) dX5_forced_4 ⟨Nat.le_of_ble_eq_true rfl, Nat.le_of_ble_eq_true rfl⟩) ?_
  refine lv_iconst (v := (1)) hx hb dX5_forced_7 (by decide) ?_
  obtain ⟨r2, er2, h⟩ := obind h
  refine call_M (va_runV (As := [.int r1, .int (1 : Int32)]) (rest := []) ⟨hx, hb, hml, hown, hts⟩ (c_X5_goes l z0 D t A μ r1 (1 : Int32) _ H.size er2) (kV hts qw1011 qw1013 qs31 qw9 qw1014 ok_X5_goes ⟨Nat.le_of_ble_eq_true rfl, Nat.le_of_ble_eq_true rfl⟩) ⟨PM.blind, va_recv hK hP (ci := 6) (q0 := 0) rfl rfl, fun U hU hW => ⟨rfl, by rw [hU]; exact (hC.at hS hZ).warm hW, by rw [hU], by rw [hU]; exact hP, ⟨hD.1, fun _ _ h9 => Or.inl (in_map (L := (ML A)) rfl h9)⟩, fun q hq => hZ q (OA.ofD hD rfl hSz q hq)⟩⟩ rfl rfl hl.1 rfl (lv_room (Nat.le_of_ble_eq_true rfl)) dX5_forced_8 ⟨Nat.le_of_ble_eq_true rfl, Nat.le_of_ble_eq_true rfl⟩) hS (OA.ofD hD rfl hSz) (fun H locs hP hD1 hS _ _ => ?_)
  have hP : va_P D vwCl (MW A t (m_thrown' μ r2.2)) H := hP
  have hD : va_D (OA (ML A) s.heap.size) (MW A t (m_thrown' μ r2.2)) := hD1.weaken (fun _ q _ h9 => OA.ofD hD rfl hSz q.1 h9)
  have hSz : s.heap.size ≤ H.size := hS.1
  refine lv_if_eq (tgt := 22) hx hb dX5_forced_11 (by decide) (fun hc => ?_) (fun hc => ?_)
  · have h := iteT hc h
    refine lv_iconst (v := (0)) hx hb dX5_forced_22 (by decide) ?_
    obtain rfl := Option.some.inj h
    exact W.iret hx hb hr (fun t ht hW => ⟨rfl, by rw [ht]; exact hP, hD, hS.F ht⟩) hS.2.2 dX5_forced_23
  · have h := iteF hc h
    refine lv_aload_n hx hb dX5_forced_14 rfl (lv_at hl 0 rfl) ?_
    refine lv_iload_n hx hb dX5_forced_15 rfl (lv_at hl 1 rfl) ?_
    obtain ⟨r3, er3, h⟩ := obind h
    refine call_R (va_runV (As := [.int a1]) (rest := []) ⟨hx, hb, hml, hown, hts⟩ (c_X5_isForced l z0 D t A (m_thrown' μ r2.2) a1 _ er3) (kV hts qw1213 qw1215 qs58 qw9 qw1216 ok_X5_isForced ⟨Nat.le_of_ble_eq_true rfl, Nat.le_of_ble_eq_true rfl⟩) ⟨PR.blind, va_recv hK hP (ci := 6) (q0 := 0) rfl rfl, fun U hU hW => ⟨rfl, by rw [hU]; exact (hC.at hS hZ).warm hW, by rw [hU]; exact hP⟩⟩ rfl rfl hl.1 rfl (lv_room (Nat.le_of_ble_eq_true rfl)) dX5_forced_16 ⟨Nat.le_of_ble_eq_true rfl, Nat.le_of_ble_eq_true rfl⟩) ?_
    refine lv_goto (tgt := 23) hx hb dX5_forced_19 (by decide) ?_
    obtain rfl := Option.some.inj h
    exact W.iret hx hb hr (fun t ht hW => ⟨rfl, by rw [ht]; exact hP, hD, hS.F ht⟩) hS.2.2 dX5_forced_23

abbrev rm_X5_lonely : Room := { frames := 4, cells := 0, slots := 0, locals := 118 }
theorem ok_X5_lonely : okY yX5_lonely 0 := ⟨by decide +kernel, by decide +kernel, by decide +kernel⟩
set_option maxHeartbeats 4000000 in
set_option maxRecDepth 100000 in
theorem c_X5_lonely (l : Launch) (z0 : Nat) (D : va_G) (t : Nat → ClassId) (A : Nat → Nat) (μ : MS) (res : Int32 × (Int32)) (sz : Nat) (h : f_X5_lonely μ = some res) : Met l yX5_lonely (ws_ yX5_lonely cX5_lonely 1 (some .int)) rm_X5_lonely (PM z0 D t [.ref (A 0)] (MW A t μ) (ML A) sz) (QM (some (.int res.1)) D (MW A t (m_thrown' μ res.2)) (ML A) sz) 0 0 (OA (ML A) sz) := by
  refine Met.ofW (cc := cX5_lonely) (maxL := 1) (ret := (some .int)) (by decide) rfl ?_
  intro p e s m args below meth c s₁ Bo hml hv
  obtain ⟨rfl, hC, hsz, hP, hD, hZ⟩ := hv
  have hx := Bo.exec
  have hb := Bo.bytes
  have hr := Bo.returns
  have hts : ∀ w ∈ LA, w.before _ s = true := fun w hw => atoms_spec (ws := ws_ yX5_lonely cX5_lonely 1 (some .int)) Bo.pre w (List.mem_cons_of_mem _ hw)
  have hown : s.vm.findClass RX5 = some m.cls := findClass_of_methodNamed Bo.named
  have hlocks := Bo.notSynchronized
  have hK := hC.1
  subst hsz
  have hl := lv_entry ([.ref (A 0)]) (n := 1) (Nat.le_of_ble_eq_true rfl)
  rw [lg_entry_eq]
  generalize (lg_sl ([.ref (A 0)]) ++ List.replicate (1 - (lg_sl ([.ref (A 0)])).length) Slot.unset).toArray = ls at hl ⊢
  have hl : lv_has ls 1 [(0, .ref (A 0))] := hl
  suffices K9 : ∀ (H : Heap) (locs : List Loc), va_P D vwCl (MW A t μ) H → va_S (OA (ML A) s.heap.size) s.heap H locs → W p l e (headSpec (ws_ yX5_lonely cX5_lonely 1 (some .int)) rm_X5_lonely).room s m ([.ref (A 0)] : List Value).toArray below meth c H locs 0 0 (MQ below (QM (some (.int res.1)) D (MW A t (m_thrown' μ res.2)) (ML A) s.heap.size) ([.ref (A 0)] : List Value).toArray s 0 0 (OA (ML A) s.heap.size)) (F0 m 0 ls []) from K9 s.heap [] hP va_S.rf
  intro H locs hP hS
  have hSz : s.heap.size ≤ H.size := hS.1
  unfold f_X5_lonely at h
  refine lv_aload_n hx hb dX5_lonely_0 rfl (lv_at hl 0 rfl) ?_
  refine lv_iconst (v := (0)) hx hb dX5_lonely_1 (by decide) ?_
  refine va_put (D := D) (ci := 6) (v := .int (0 : Int32)) (ty := .int) hx hb hts inX5 tyX5 tyX5_ok nmX5 hown hK hP hD hS 0 rfl rfl 3 (by decide) (hts _ qw970) (fun _ h9 => h9) rfl (by decide +kernel) rfl rfl (Nat.le_of_ble_eq_true rfl) dX5_lonely_2 (fun H locs hP hD hS => ?_)
  have hP : va_P D vwCl (MW A t (m_thrown' μ (0 : Int32))) H := hP
  have hD : va_D (OA (ML A) s.heap.size) (MW A t (m_thrown' μ (0 : Int32))) := hD
  have hSz : s.heap.size ≤ H.size := hS.1
  refine lv_aload_n hx hb dX5_lonely_5 rfl (lv_at hl 0 rfl) ?_
  refine lv_iconst (v := (0)) hx hb dX5_lonely_6 (by decide) ?_
  obtain ⟨r1, er1, h⟩ := obind h
  refine call_R (va_runV (As := [.int (0 : Int32)]) (rest := []) ⟨hx, hb, hml, hown, hts⟩ (c_X5_firstWith l z0 D t A (m_thrown' μ (0 : Int32)) (0 : Int32) _ er1) (kV hts qw1217 qw1219 qs59 qw9 qw1220 ok_X5_firstWith ⟨Nat.le_of_ble_eq_true rfl, Nat.le_of_ble_eq_true rfl⟩) ⟨PR.blind, va_recv hK hP (ci := 6) (q0 := 0) rfl rfl, fun U hU hW => ⟨rfl, by rw [hU]; exact (hC.at hS hZ).warm hW, by rw [hU]; exact hP⟩⟩ rfl rfl hl.1 rfl (lv_room (Nat.le_of_ble_eq_true rfl)) dX5_lonely_7 ⟨Nat.le_of_ble_eq_true rfl, Nat.le_of_ble_eq_true rfl⟩) ?_
  obtain ⟨r2, er2, h⟩ := obind h
  refine call_R (va_runS (As := [.int r1]) (rest := []) ⟨hx, hb, hml, hown, hts⟩ (c_X5_told l z0 D t r1 _ er2) (kS hts qw1221 qw1222 qw9 qw1223 ok_X5_told ⟨Nat.le_of_ble_eq_true rfl, Nat.le_of_ble_eq_true rfl⟩) ⟨PR.blind, fun U hU hW => ⟨rfl, by rw [hU]; exact (hC.at hS hZ).warm hW, by rw [hU]; exact va_P_nil⟩⟩ rfl rfl hl.1 rfl (lv_room (Nat.le_of_ble_eq_true rfl)) dX5_lonely_10 ⟨Nat.le_of_ble_eq_true rfl, Nat.le_of_ble_eq_true rfl⟩) ?_
  obtain rfl := Option.some.inj h
  exact W.iret hx hb hr (fun t ht hW => ⟨rfl, by rw [ht]; exact hP, hD, hS.F ht⟩) hS.2.2 dX5_lonely_13

abbrev rm_X5_bestPond : Room := { frames := 4, cells := 0, slots := 0, locals := 123 }
theorem ok_X5_bestPond : okY yX5_bestPond 0 := ⟨by decide +kernel, by decide +kernel, by decide +kernel⟩
set_option maxHeartbeats 4000000 in
set_option maxRecDepth 100000 in
theorem c_X5_bestPond (l : Launch) (z0 : Nat) (D : va_G) (t : Nat → ClassId) (A : Nat → Nat) (μ : MS) (res : Int32 × (Nat → Int32) × (Int32) × (Nat → Int32) × (Nat → Int32)) (sz : Nat) (h : f_X5_bestPond μ = some res) : Met l yX5_bestPond (ws_ yX5_bestPond cX5_bestPond 7 (some .int)) rm_X5_bestPond (PM z0 D t [.ref (A 0)] (MW A t μ) (ML A) sz) (QM (some (.int res.1)) D (MW A t (m_next' (m_ways' (m_thrown' (m_s' μ res.2.1) res.2.2.1) res.2.2.2.1) res.2.2.2.2)) (ML A) sz) 0 0 (OA (ML A) sz) := by
  refine Met.ofW (cc := cX5_bestPond) (maxL := 7) (ret := (some .int)) (by decide) rfl ?_
  intro p e s m args below meth c s₁ Bo hml hv
  obtain ⟨rfl, hC, hsz, hP, hD, hZ⟩ := hv
  have hx := Bo.exec
  have hb := Bo.bytes
  have hr := Bo.returns
  have hts : ∀ w ∈ LA, w.before _ s = true := fun w hw => atoms_spec (ws := ws_ yX5_bestPond cX5_bestPond 7 (some .int)) Bo.pre w (List.mem_cons_of_mem _ hw)
  have hown : s.vm.findClass RX5 = some m.cls := findClass_of_methodNamed Bo.named
  have hlocks := Bo.notSynchronized
  have hK := hC.1
  subst hsz
  have hl := lv_entry ([.ref (A 0)]) (n := 7) (Nat.le_of_ble_eq_true rfl)
  rw [lg_entry_eq]
  generalize (lg_sl ([.ref (A 0)]) ++ List.replicate (7 - (lg_sl ([.ref (A 0)])).length) Slot.unset).toArray = ls at hl ⊢
  have hl : lv_has ls 7 [(0, .ref (A 0))] := hl
  suffices K9 : ∀ (H : Heap) (locs : List Loc), va_P D vwCl (MW A t μ) H → va_S (OA (ML A) s.heap.size) s.heap H locs → W p l e (headSpec (ws_ yX5_bestPond cX5_bestPond 7 (some .int)) rm_X5_bestPond).room s m ([.ref (A 0)] : List Value).toArray below meth c H locs 0 0 (MQ below (QM (some (.int res.1)) D (MW A t (m_next' (m_ways' (m_thrown' (m_s' μ res.2.1) res.2.2.1) res.2.2.2.1) res.2.2.2.2)) (ML A) s.heap.size) ([.ref (A 0)] : List Value).toArray s 0 0 (OA (ML A) s.heap.size)) (F0 m 0 ls []) from K9 s.heap [] hP va_S.rf
  intro H locs hP hS
  have hSz : s.heap.size ≤ H.size := hS.1
  unfold f_X5_bestPond at h
  refine lv_aload_n hx hb dX5_bestPond_0 rfl (lv_at hl 0 rfl) ?_
  refine lv_iconst (v := (0)) hx hb dX5_bestPond_1 (by decide) ?_
  refine va_put (D := D) (ci := 6) (v := .int (0 : Int32)) (ty := .int) hx hb hts inX5 tyX5 tyX5_ok nmX5 hown hK hP hD hS 0 rfl rfl 3 (by decide) (hts _ qw970) (fun _ h9 => h9) rfl (by decide +kernel) rfl rfl (Nat.le_of_ble_eq_true rfl) dX5_bestPond_2 (fun H locs hP hD hS => ?_)
  have hP : va_P D vwCl (MW A t (m_thrown' μ (0 : Int32))) H := hP
  have hD : va_D (OA (ML A) s.heap.size) (MW A t (m_thrown' μ (0 : Int32))) := hD
  have hSz : s.heap.size ≤ H.size := hS.1
  refine lv_iconst (v := (-1)) hx hb dX5_bestPond_5 (by decide) ?_
  refine lv_istore_n (lv' := [(1, .int (-1 : Int32)), (0, .ref (A 0))]) hx hb dX5_bestPond_6 rfl hl (by decide) rfl (fun ls hl => ?_)
  refine lv_iconst (v := (0)) hx hb dX5_bestPond_7 (by decide) ?_
  refine lv_istore_n (lv' := [(2, .int (0 : Int32)), (1, .int (-1 : Int32)), (0, .ref (A 0))]) hx hb dX5_bestPond_8 rfl hl (by decide) rfl (fun ls hl => ?_)
  refine lv_iconst (v := (0)) hx hb dX5_bestPond_9 (by decide) ?_
  refine lv_istore_n (lv' := [(3, .int (0 : Int32)), (2, .int (0 : Int32)), (1, .int (-1 : Int32)), (0, .ref (A 0))]) hx hb dX5_bestPond_10 rfl hl (by decide) rfl (fun ls hl => ?_)
  obtain ⟨o169, eo169, h⟩ := obind h
  have hL11 : ∀ (n : Nat) (y1_11 : Int32) (y2_11 : Int32) (y3_11 : Int32) (s_11 : Nat → Int32) (ways_11 : Nat → Int32) (next_11 : Nat → Int32) (o169 : Int32 × (Nat → Int32) × (Nat → Int32) × (Nat → Int32)), f_X5_bestPond_L11 μ n y1_11 y2_11 y3_11 s_11 ways_11 next_11 = some o169 → (∀ (ls : Array Slot) (H : Heap) (locs : List Loc), lv_has ls 7 [(1, .int o169.1)] → va_P D vwCl (MW A t (m_next' (m_ways' (m_thrown' (m_s' μ o169.2.1) (0 : Int32)) o169.2.2.1) o169.2.2.2)) H → va_D (OA (ML A) s.heap.size) (MW A t (m_next' (m_ways' (m_thrown' (m_s' μ o169.2.1) (0 : Int32)) o169.2.2.1) o169.2.2.2)) → va_S (OA (ML A) s.heap.size) s.heap H locs → W p l e (headSpec (ws_ yX5_bestPond cX5_bestPond 7 (some .int)) rm_X5_bestPond).room s m ([.ref (A 0)] : List Value).toArray below meth c H locs 0 0 (MQ below (QM (some (.int res.1)) D (MW A t (m_next' (m_ways' (m_thrown' (m_s' μ res.2.1) res.2.2.1) res.2.2.2.1) res.2.2.2.2)) (ML A) s.heap.size) ([.ref (A 0)] : List Value).toArray s 0 0 (OA (ML A) s.heap.size)) (F0 m 129 ls [])) → ∀ (ls : Array Slot) (H : Heap) (locs : List Loc), lv_has ls 7 [(0, .ref (A 0)), (1, .int y1_11), (2, .int y2_11), (3, .int y3_11)] → va_P D vwCl (MW A t (m_next' (m_ways' (m_thrown' (m_s' μ s_11) (0 : Int32)) ways_11) next_11)) H → va_D (OA (ML A) s.heap.size) (MW A t (m_next' (m_ways' (m_thrown' (m_s' μ s_11) (0 : Int32)) ways_11) next_11)) → va_S (OA (ML A) s.heap.size) s.heap H locs → W p l e (headSpec (ws_ yX5_bestPond cX5_bestPond 7 (some .int)) rm_X5_bestPond).room s m ([.ref (A 0)] : List Value).toArray below meth c H locs 0 0 (MQ below (QM (some (.int res.1)) D (MW A t (m_next' (m_ways' (m_thrown' (m_s' μ res.2.1) res.2.2.1) res.2.2.2.1) res.2.2.2.2)) (ML A) s.heap.size) ([.ref (A 0)] : List Value).toArray s 0 0 (OA (ML A) s.heap.size)) (F0 m 11 ls []) := by
    intro n
    induction n with
    | zero => intro y1_11 y2_11 y3_11 s_11 ways_11 next_11 o169 h; exact absurd h (fun z => by cases z)
    | succ n ih =>
      intro y1_11 y2_11 y3_11 s_11 ways_11 next_11 o169 h hK11 ls H locs hl hP hD hS
      replace h : f_X5_bestPond_L11_b μ (f_X5_bestPond_L11 μ n) y1_11 y2_11 y3_11 s_11 ways_11 next_11 = some o169 := h
      unfold f_X5_bestPond_L11_b at h
      have hSz : s.heap.size ≤ H.size := hS.1
      refine lv_iload_n hx hb dX5_bestPond_11 rfl (lv_at hl 3 rfl) ?_
      refine lv_aload_n hx hb dX5_bestPond_12 rfl (lv_at hl 0 rfl) ?_
      refine va_get hx hb hts inX5 hown hK hP 0 rfl rfl 0 (by decide) (hts _ qw967) (fun _ h9 => h9) rfl dX5_bestPond_13 ?_
      refine lv_iconst (v := (1)) hx hb dX5_bestPond_16 (by decide) ?_
      obtain ⟨v170, ev170, h⟩ := obind h
      refine k_iald hx hb hK hP 1 rfl ev170 dX5_bestPond_17 ?_
      refine lv_icmp_ge (tgt := 129) hx hb dX5_bestPond_18 (by decide) (fun hc => ?_) (fun hc => ?_)
      · have h := iteT hc h
        obtain rfl := Option.some.inj h
        exact hK11 ls H locs (lv_sub hl [1] rfl) hP hD hS
      · have h := iteF hc h
        refine lv_iconst (v := (0)) hx hb dX5_bestPond_21 (by decide) ?_
        refine lv_istore (lv' := [(4, .int (0 : Int32)), (0, .ref (A 0)), (1, .int y1_11), (2, .int y2_11), (3, .int y3_11)]) hx hb dX5_bestPond_22 hl (by decide) rfl (fun ls hl => ?_)
        obtain ⟨o225, eo225, h⟩ := obind h
        have hL24 : ∀ (n : Nat) (y1_24 : Int32) (y2_24 : Int32) (y4_24 : Int32) (s_24 : Nat → Int32) (ways_24 : Nat → Int32) (next_24 : Nat → Int32) (o225 : Int32 × Int32 × (Nat → Int32) × (Nat → Int32) × (Nat → Int32)), f_X5_bestPond_L24 μ y3_11 n y1_24 y2_24 y4_24 s_24 ways_24 next_24 = some o225 → (∀ (ls : Array Slot) (H : Heap) (locs : List Loc), lv_has ls 7 [(0, .ref (A 0)), (1, .int o225.1), (2, .int o225.2.1), (3, .int y3_11)] → va_P D vwCl (MW A t (m_next' (m_ways' (m_thrown' (m_s' μ o225.2.2.1) (0 : Int32)) o225.2.2.2.1) o225.2.2.2.2)) H → va_D (OA (ML A) s.heap.size) (MW A t (m_next' (m_ways' (m_thrown' (m_s' μ o225.2.2.1) (0 : Int32)) o225.2.2.2.1) o225.2.2.2.2)) → va_S (OA (ML A) s.heap.size) s.heap H locs → W p l e (headSpec (ws_ yX5_bestPond cX5_bestPond 7 (some .int)) rm_X5_bestPond).room s m ([.ref (A 0)] : List Value).toArray below meth c H locs 0 0 (MQ below (QM (some (.int res.1)) D (MW A t (m_next' (m_ways' (m_thrown' (m_s' μ res.2.1) res.2.2.1) res.2.2.2.1) res.2.2.2.2)) (ML A) s.heap.size) ([.ref (A 0)] : List Value).toArray s 0 0 (OA (ML A) s.heap.size)) (F0 m 123 ls [])) → ∀ (ls : Array Slot) (H : Heap) (locs : List Loc), lv_has ls 7 [(0, .ref (A 0)), (1, .int y1_24), (2, .int y2_24), (3, .int y3_11), (4, .int y4_24)] → va_P D vwCl (MW A t (m_next' (m_ways' (m_thrown' (m_s' μ s_24) (0 : Int32)) ways_24) next_24)) H → va_D (OA (ML A) s.heap.size) (MW A t (m_next' (m_ways' (m_thrown' (m_s' μ s_24) (0 : Int32)) ways_24) next_24)) → va_S (OA (ML A) s.heap.size) s.heap H locs → W p l e (headSpec (ws_ yX5_bestPond cX5_bestPond 7 (some .int)) rm_X5_bestPond).room s m ([.ref (A 0)] : List Value).toArray below meth c H locs 0 0 (MQ below (QM (some (.int res.1)) D (MW A t (m_next' (m_ways' (m_thrown' (m_s' μ res.2.1) res.2.2.1) res.2.2.2.1) res.2.2.2.2)) (ML A) s.heap.size) ([.ref (A 0)] : List Value).toArray s 0 0 (OA (ML A) s.heap.size)) (F0 m 24 ls []) := by
          intro n
          induction n with
          | zero => intro y1_24 y2_24 y4_24 s_24 ways_24 next_24 o225 h; exact absurd h (fun z => by cases z)
          | succ n ih =>
            intro y1_24 y2_24 y4_24 s_24 ways_24 next_24 o225 h hK24 ls H locs hl hP hD hS
            replace h : f_X5_bestPond_L24_b μ y3_11 (f_X5_bestPond_L24 μ y3_11 n) y1_24 y2_24 y4_24 s_24 ways_24 next_24 = some o225 := h
            unfold f_X5_bestPond_L24_b at h
            have hSz : s.heap.size ≤ H.size := hS.1
            refine lv_iload hx hb dX5_bestPond_24 (lv_at hl 4 rfl) ?_
            refine lv_aload_n hx hb dX5_bestPond_26 rfl (lv_at hl 0 rfl) ?_
            refine va_get hx hb hts inX5 hown hK hP 0 rfl rfl 0 (by decide) (hts _ qw967) (fun _ h9 => h9) rfl dX5_bestPond_27 ?_
            refine lv_iconst (v := (0)) hx hb dX5_bestPond_30 (by decide) ?_
            obtain ⟨v226, ev226, h⟩ := obind h
            refine k_iald hx hb hK hP 1 rfl ev226 dX5_bestPond_31 ?_
            refine lv_icmp_ge (tgt := 123) hx hb dX5_bestPond_32 (by decide) (fun hc => ?_) (fun hc => ?_)
            · have h := iteT hc h
              obtain rfl := Option.some.inj h
              exact hK24 ls H locs (lv_sub hl [0, 1, 2, 3] rfl) hP hD hS
            · have h := iteF hc h
              refine lv_bipush (v := (8)) hx hb dX5_bestPond_35 (by decide) ?_
              refine lv_iload_n hx hb dX5_bestPond_37 rfl (lv_at hl 3 rfl) ?_
              refine lv_imul hx hb dX5_bestPond_38 ?_
              refine lv_iload hx hb dX5_bestPond_39 (lv_at hl 4 rfl) ?_
              refine lv_iadd hx hb dX5_bestPond_41 ?_
              obtain ⟨x227, ex227, h⟩ := jlet_some h
              refine topI ex227 ?_
              refine lv_istore (lv' := [(5, .int x227), (0, .ref (A 0)), (1, .int y1_24), (2, .int y2_24), (3, .int y3_11), (4, .int y4_24)]) hx hb dX5_bestPond_42 hl (by decide) rfl (fun ls hl => ?_)
              refine lv_iload hx hb dX5_bestPond_44 (lv_at hl 0 rfl) ?_
              refine lv_aload_n hx hb dX5_bestPond_46 rfl (lv_at hl 1 rfl) ?_
              refine va_get hx hb hts inX5 hown hK hP 0 rfl rfl 0 (by decide) (hts _ qw967) (fun _ h9 => h9) rfl dX5_bestPond_47 ?_
              refine lv_iconst (v := (2)) hx hb dX5_bestPond_50 (by decide) ?_
              obtain ⟨v228, ev228, h⟩ := obind h
              refine k_iald hx hb hK hP 1 rfl ev228 dX5_bestPond_51 ?_
              obtain ⟨o240, eo240, h⟩ := obind h
              have hJ117_o240 : ∀ (ls : Array Slot) (H : Heap) (locs : List Loc), lv_has ls 7 [(0, .ref (A 0)), (1, .int o240.1), (2, .int o240.2.1), (3, .int y3_11), (4, .int y4_24)] → va_P D vwCl (MW A t (m_next' (m_ways' (m_thrown' (m_s' μ o240.2.2.1) (0 : Int32)) o240.2.2.2.1) o240.2.2.2.2)) H → va_D (OA (ML A) s.heap.size) (MW A t (m_next' (m_ways' (m_thrown' (m_s' μ o240.2.2.1) (0 : Int32)) o240.2.2.2.1) o240.2.2.2.2)) → va_S (OA (ML A) s.heap.size) s.heap H locs → W p l e (headSpec (ws_ yX5_bestPond cX5_bestPond 7 (some .int)) rm_X5_bestPond).room s m ([.ref (A 0)] : List Value).toArray below meth c H locs 0 0 (MQ below (QM (some (.int res.1)) D (MW A t (m_next' (m_ways' (m_thrown' (m_s' μ res.2.1) res.2.2.1) res.2.2.2.1) res.2.2.2.2)) (ML A) s.heap.size) ([.ref (A 0)] : List Value).toArray s 0 0 (OA (ML A) s.heap.size)) (F0 m 117 ls []) := by
                intro ls H locs hl hP hD hS
                have hSz : s.heap.size ≤ H.size := hS.1
                obtain ⟨x252, ex252, h⟩ := jlet_some h
                refine lv_iinc (v := x252) (lv' := [(4, .int x252), (0, .ref (A 0)), (1, .int o240.1), (2, .int o240.2.1), (3, .int y3_11)]) hx hb dX5_bestPond_117 hl (k := 4) rfl (by rw [ex252]; rfl) (by decide) rfl (fun ls hl => ?_)
                refine lv_goto (tgt := 24) hx hb dX5_bestPond_120 (by decide) ?_
                exact ih _ _ _ _ _ _ _ h hK24 ls H locs (lv_sub hl [1, 2, 3, 4, 0] rfl) hP hD hS
              have h := eo240
              clear eo240
              refine lv_icmp_eq (tgt := 65) hx hb dX5_bestPond_52 (by decide) (fun hc => ?_) (fun hc => ?_)
              · have h := iteT hc h
                refine lv_aload_n hx hb dX5_bestPond_65 rfl (lv_at hl 1 rfl) ?_
                refine lv_iconst (v := (0)) hx hb dX5_bestPond_66 (by decide) ?_
                refine lv_bipush (v := (9)) hx hb dX5_bestPond_67 (by decide) ?_
                obtain ⟨r241, er241, h⟩ := obind h
                refine call_M (va_runV (As := [.int (0 : Int32), .int (9 : Int32)]) (rest := []) ⟨hx, hb, hml, hown, hts⟩ (c_X5_copies l z0 D t A (m_next' (m_ways' (m_thrown' (m_s' μ s_24) (0 : Int32)) ways_24) next_24) (0 : Int32) (9 : Int32) _ H.size er241) (kV hts qw1019 qw1021 qs33 qw9 qw1022 ok_X5_copies ⟨Nat.le_of_ble_eq_true rfl, Nat.le_of_ble_eq_true rfl⟩) ⟨PM.blind, va_recv hK hP (ci := 6) (q0 := 0) rfl rfl, fun U hU hW => ⟨rfl, by rw [hU]; exact (hC.at hS hZ).warm hW, by rw [hU], by rw [hU]; exact hP, ⟨hD.1, fun _ _ h9 => Or.inl (in_map (L := (ML A)) rfl h9)⟩, fun q hq => hZ q (OA.ofD hD rfl hSz q hq)⟩⟩ rfl rfl hl.1 rfl (lv_room (Nat.le_of_ble_eq_true rfl)) dX5_bestPond_69 ⟨Nat.le_of_ble_eq_true rfl, Nat.le_of_ble_eq_true rfl⟩) hS (OA.ofD hD rfl hSz) (fun H locs hP hD1 hS _ _ => ?_)
                have hP : va_P D vwCl (MW A t (m_next' (m_ways' (m_thrown' (m_s' μ r241) (0 : Int32)) ways_24) next_24)) H := hP
                have hD : va_D (OA (ML A) s.heap.size) (MW A t (m_next' (m_ways' (m_thrown' (m_s' μ r241) (0 : Int32)) ways_24) next_24)) := hD1.weaken (fun _ q _ h9 => OA.ofD hD rfl hSz q.1 h9)
                have hSz : s.heap.size ≤ H.size := hS.1
                refine lv_aload_n hx hb dX5_bestPond_72 rfl (lv_at hl 1 rfl) ?_
                refine va_get hx hb hts inX5 hown hK hP 0 rfl rfl 0 (by decide) (hts _ qw967) (fun _ h9 => h9) rfl dX5_bestPond_73 ?_
                refine lv_sipush (v := (1775)) hx hb dX5_bestPond_76 (by decide) ?_
                refine lv_iload hx hb dX5_bestPond_79 (lv_at hl 0 rfl) ?_
                obtain ⟨f242, ef242, h⟩ := obind h
                refine k_iast (ws' := (MW A t (m_next' (m_ways' (m_thrown' (m_s' μ f242) (0 : Int32)) ways_24) next_24))) hx hb hK hP hD hS 1 rfl ef242 rfl dX5_bestPond_81 (fun H locs hP hD hS => ?_)
                have hSz : s.heap.size ≤ H.size := hS.1
                refine lv_aload_n hx hb dX5_bestPond_82 rfl (lv_at hl 1 rfl) ?_
                refine lv_sipush (v := (1773)) hx hb dX5_bestPond_83 (by decide) ?_
                obtain ⟨r243, er243, h⟩ := obind h
                refine call_M (va_runV (As := [.int (1773 : Int32)]) (rest := []) ⟨hx, hb, hml, hown, hts⟩ (c_X5_paves l z0 D t A (m_next' (m_ways' (m_thrown' (m_s' μ f242) (0 : Int32)) ways_24) next_24) (1773 : Int32) _ H.size er243) (kV hts qw1078 qw1080 qs41 qw9 qw1081 ok_X5_paves ⟨Nat.le_of_ble_eq_true rfl, Nat.le_of_ble_eq_true rfl⟩) ⟨PM.blind, va_recv hK hP (ci := 6) (q0 := 0) rfl rfl, fun U hU hW => ⟨rfl, by rw [hU]; exact (hC.at hS hZ).warm hW, by rw [hU], by rw [hU]; exact hP, ⟨hD.1, fun _ _ h9 => Or.inl (in_map (L := (ML A)) rfl h9)⟩, fun q hq => hZ q (OA.ofD hD rfl hSz q hq)⟩⟩ rfl rfl hl.1 rfl (lv_room (Nat.le_of_ble_eq_true rfl)) dX5_bestPond_86 ⟨Nat.le_of_ble_eq_true rfl, Nat.le_of_ble_eq_true rfl⟩) hS (OA.ofD hD rfl hSz) (fun H locs hP hD1 hS _ _ => ?_)
                have hP : va_P D vwCl (MW A t (m_next' (m_ways' (m_thrown' (m_s' μ f242) (0 : Int32)) r243.2.1) r243.2.2)) H := hP
                have hD : va_D (OA (ML A) s.heap.size) (MW A t (m_next' (m_ways' (m_thrown' (m_s' μ f242) (0 : Int32)) r243.2.1) r243.2.2)) := hD1.weaken (fun _ q _ h9 => OA.ofD hD rfl hSz q.1 h9)
                have hSz : s.heap.size ≤ H.size := hS.1
                refine lv_istore (lv' := [(6, .int r243.1), (5, .int x227), (0, .ref (A 0)), (1, .int y1_24), (2, .int y2_24), (3, .int y3_11), (4, .int y4_24)]) hx hb dX5_bestPond_89 hl (by decide) rfl (fun ls hl => ?_)
                refine lv_iload hx hb dX5_bestPond_91 (lv_at hl 0 rfl) ?_
                refine lv_iload_n hx hb dX5_bestPond_93 rfl (lv_at hl 4 rfl) ?_
                obtain ⟨o244, eo244, h⟩ := obind h
                have hJ103_o244 : ∀ (ls : Array Slot) (H : Heap) (locs : List Loc), lv_has ls 7 [(0, .ref (A 0)), (2, .int y2_24), (3, .int y3_11), (4, .int y4_24), (6, .int r243.1)] → va_P D vwCl (MW A t (m_next' (m_ways' (m_thrown' (m_s' μ f242) (0 : Int32)) r243.2.1) r243.2.2)) H → va_D (OA (ML A) s.heap.size) (MW A t (m_next' (m_ways' (m_thrown' (m_s' μ f242) (0 : Int32)) r243.2.1) r243.2.2)) → va_S (OA (ML A) s.heap.size) s.heap H locs → W p l e (headSpec (ws_ yX5_bestPond cX5_bestPond 7 (some .int)) rm_X5_bestPond).room s m ([.ref (A 0)] : List Value).toArray below meth c H locs 0 0 (MQ below (QM (some (.int res.1)) D (MW A t (m_next' (m_ways' (m_thrown' (m_s' μ res.2.1) res.2.2.1) res.2.2.2.1) res.2.2.2.2)) (ML A) s.heap.size) ([.ref (A 0)] : List Value).toArray s 0 0 (OA (ML A) s.heap.size)) (F0 m 103 ls [.int o244]) := by
                  intro ls H locs hl hP hD hS
                  have hSz : s.heap.size ≤ H.size := hS.1
                  refine lv_istore_n (lv' := [(1, .int o244), (0, .ref (A 0)), (2, .int y2_24), (3, .int y3_11), (4, .int y4_24), (6, .int r243.1)]) hx hb dX5_bestPond_103 rfl hl (by decide) rfl (fun ls hl => ?_)
                  refine lv_iload hx hb dX5_bestPond_104 (lv_at hl 5 rfl) ?_
                  refine lv_iload_n hx hb dX5_bestPond_106 rfl (lv_at hl 2 rfl) ?_
                  obtain ⟨o245, eo245, h⟩ := obind h
                  have hJ116_o245 : ∀ (ls : Array Slot) (H : Heap) (locs : List Loc), lv_has ls 7 [(0, .ref (A 0)), (1, .int o244), (3, .int y3_11), (4, .int y4_24)] → va_P D vwCl (MW A t (m_next' (m_ways' (m_thrown' (m_s' μ f242) (0 : Int32)) r243.2.1) r243.2.2)) H → va_D (OA (ML A) s.heap.size) (MW A t (m_next' (m_ways' (m_thrown' (m_s' μ f242) (0 : Int32)) r243.2.1) r243.2.2)) → va_S (OA (ML A) s.heap.size) s.heap H locs → W p l e (headSpec (ws_ yX5_bestPond cX5_bestPond 7 (some .int)) rm_X5_bestPond).room s m ([.ref (A 0)] : List Value).toArray below meth c H locs 0 0 (MQ below (QM (some (.int res.1)) D (MW A t (m_next' (m_ways' (m_thrown' (m_s' μ res.2.1) res.2.2.1) res.2.2.2.1) res.2.2.2.2)) (ML A) s.heap.size) ([.ref (A 0)] : List Value).toArray s 0 0 (OA (ML A) s.heap.size)) (F0 m 116 ls [.int o245]) := by
                    intro ls H locs hl hP hD hS
                    have hSz : s.heap.size ≤ H.size := hS.1
                    refine lv_istore_n (lv' := [(2, .int o245), (0, .ref (A 0)), (1, .int o244), (3, .int y3_11), (4, .int y4_24)]) hx hb dX5_bestPond_116 rfl hl (by decide) rfl (fun ls hl => ?_)
                    obtain rfl := Option.some.inj h
                    exact hJ117_o240 ls H locs (lv_sub hl [1, 2, 0, 3, 4] rfl) hP hD hS
                  have h := eo245
                  clear eo245
                  refine lv_icmp_le (tgt := 115) hx hb dX5_bestPond_107 (by decide) (fun hc => ?_) (fun hc => ?_)
                  · have h := iteT hc h
                    refine lv_iload_n hx hb dX5_bestPond_115 rfl (lv_at hl 2 rfl) ?_
                    obtain rfl := Option.some.inj h
                    exact hJ116_o245 ls H locs (lv_sub hl [1, 0, 3, 4] rfl) hP hD hS
                  · have h := iteF hc h
                    refine lv_iload hx hb dX5_bestPond_110 (lv_at hl 5 rfl) ?_
                    refine lv_goto (tgt := 116) hx hb dX5_bestPond_112 (by decide) ?_
                    obtain rfl := Option.some.inj h
                    exact hJ116_o245 ls H locs (lv_sub hl [1, 0, 3, 4] rfl) hP hD hS
                have h := eo244
                clear eo244
                refine lv_icmp_le (tgt := 102) hx hb dX5_bestPond_94 (by decide) (fun hc => ?_) (fun hc => ?_)
                · have h := iteT hc h
                  refine lv_iload_n hx hb dX5_bestPond_102 rfl (lv_at hl 3 rfl) ?_
                  obtain rfl := Option.some.inj h
                  exact hJ103_o244 ls H locs (lv_sub hl [2, 4, 5, 6, 0] rfl) hP hD hS
                · have h := iteF hc h
                  refine lv_iload hx hb dX5_bestPond_97 (lv_at hl 1 rfl) ?_
                  refine lv_goto (tgt := 103) hx hb dX5_bestPond_99 (by decide) ?_
                  obtain rfl := Option.some.inj h
                  exact hJ103_o244 ls H locs (lv_sub hl [2, 4, 5, 6, 0] rfl) hP hD hS
              · have h := iteF hc h
                refine lv_aload_n hx hb dX5_bestPond_55 rfl (lv_at hl 1 rfl) ?_
                refine lv_iconst (v := (0)) hx hb dX5_bestPond_56 (by decide) ?_
                refine lv_iload hx hb dX5_bestPond_57 (lv_at hl 0 rfl) ?_
                obtain ⟨r246, er246, h⟩ := obind h
                refine call_R (va_runV (As := [.int (0 : Int32), .int x227]) (rest := []) ⟨hx, hb, hml, hown, hts⟩ (c_X5_isFree l z0 D t A (m_next' (m_ways' (m_thrown' (m_s' μ s_24) (0 : Int32)) ways_24) next_24) (0 : Int32) x227 _ er246) (kV hts qw1090 qw1092 qs44 qw9 qw1093 ok_X5_isFree ⟨Nat.le_of_ble_eq_true rfl, Nat.le_of_ble_eq_true rfl⟩) ⟨PR.blind, va_recv hK hP (ci := 6) (q0 := 0) rfl rfl, fun U hU hW => ⟨rfl, by rw [hU]; exact (hC.at hS hZ).warm hW, by rw [hU]; exact hP⟩⟩ rfl rfl hl.1 rfl (lv_room (Nat.le_of_ble_eq_true rfl)) dX5_bestPond_59 ⟨Nat.le_of_ble_eq_true rfl, Nat.le_of_ble_eq_true rfl⟩) ?_
                refine lv_if_eq (tgt := 117) hx hb dX5_bestPond_62 (by decide) (fun hc => ?_) (fun hc => ?_)
                · have h := iteT hc h
                  obtain rfl := Option.some.inj h
                  exact hJ117_o240 ls H locs (lv_sub hl [1, 2, 3, 4, 5] rfl) hP hD hS
                · have h := iteF hc h
                  refine lv_aload_n hx hb dX5_bestPond_65 rfl (lv_at hl 1 rfl) ?_
                  refine lv_iconst (v := (0)) hx hb dX5_bestPond_66 (by decide) ?_
                  refine lv_bipush (v := (9)) hx hb dX5_bestPond_67 (by decide) ?_
                  obtain ⟨r247, er247, h⟩ := obind h
                  refine call_M (va_runV (As := [.int (0 : Int32), .int (9 : Int32)]) (rest := []) ⟨hx, hb, hml, hown, hts⟩ (c_X5_copies l z0 D t A (m_next' (m_ways' (m_thrown' (m_s' μ s_24) (0 : Int32)) ways_24) next_24) (0 : Int32) (9 : Int32) _ H.size er247) (kV hts qw1019 qw1021 qs33 qw9 qw1022 ok_X5_copies ⟨Nat.le_of_ble_eq_true rfl, Nat.le_of_ble_eq_true rfl⟩) ⟨PM.blind, va_recv hK hP (ci := 6) (q0 := 0) rfl rfl, fun U hU hW => ⟨rfl, by rw [hU]; exact (hC.at hS hZ).warm hW, by rw [hU], by rw [hU]; exact hP, ⟨hD.1, fun _ _ h9 => Or.inl (in_map (L := (ML A)) rfl h9)⟩, fun q hq => hZ q (OA.ofD hD rfl hSz q hq)⟩⟩ rfl rfl hl.1 rfl (lv_room (Nat.le_of_ble_eq_true rfl)) dX5_bestPond_69 ⟨Nat.le_of_ble_eq_true rfl, Nat.le_of_ble_eq_true rfl⟩) hS (OA.ofD hD rfl hSz) (fun H locs hP hD1 hS _ _ => ?_)
                  have hP : va_P D vwCl (MW A t (m_next' (m_ways' (m_thrown' (m_s' μ r247) (0 : Int32)) ways_24) next_24)) H := hP
                  have hD : va_D (OA (ML A) s.heap.size) (MW A t (m_next' (m_ways' (m_thrown' (m_s' μ r247) (0 : Int32)) ways_24) next_24)) := hD1.weaken (fun _ q _ h9 => OA.ofD hD rfl hSz q.1 h9)
                  have hSz : s.heap.size ≤ H.size := hS.1
                  refine lv_aload_n hx hb dX5_bestPond_72 rfl (lv_at hl 1 rfl) ?_
                  refine va_get hx hb hts inX5 hown hK hP 0 rfl rfl 0 (by decide) (hts _ qw967) (fun _ h9 => h9) rfl dX5_bestPond_73 ?_
                  refine lv_sipush (v := (1775)) hx hb dX5_bestPond_76 (by decide) ?_
                  refine lv_iload hx hb dX5_bestPond_79 (lv_at hl 0 rfl) ?_
                  obtain ⟨f248, ef248, h⟩ := obind h
                  refine k_iast (ws' := (MW A t (m_next' (m_ways' (m_thrown' (m_s' μ f248) (0 : Int32)) ways_24) next_24))) hx hb hK hP hD hS 1 rfl ef248 rfl dX5_bestPond_81 (fun H locs hP hD hS => ?_)
                  have hSz : s.heap.size ≤ H.size := hS.1
                  refine lv_aload_n hx hb dX5_bestPond_82 rfl (lv_at hl 1 rfl) ?_
                  refine lv_sipush (v := (1773)) hx hb dX5_bestPond_83 (by decide) ?_
                  obtain ⟨r249, er249, h⟩ := obind h
                  refine call_M (va_runV (As := [.int (1773 : Int32)]) (rest := []) ⟨hx, hb, hml, hown, hts⟩ (c_X5_paves l z0 D t A (m_next' (m_ways' (m_thrown' (m_s' μ f248) (0 : Int32)) ways_24) next_24) (1773 : Int32) _ H.size er249) (kV hts qw1078 qw1080 qs41 qw9 qw1081 ok_X5_paves ⟨Nat.le_of_ble_eq_true rfl, Nat.le_of_ble_eq_true rfl⟩) ⟨PM.blind, va_recv hK hP (ci := 6) (q0 := 0) rfl rfl, fun U hU hW => ⟨rfl, by rw [hU]; exact (hC.at hS hZ).warm hW, by rw [hU], by rw [hU]; exact hP, ⟨hD.1, fun _ _ h9 => Or.inl (in_map (L := (ML A)) rfl h9)⟩, fun q hq => hZ q (OA.ofD hD rfl hSz q hq)⟩⟩ rfl rfl hl.1 rfl (lv_room (Nat.le_of_ble_eq_true rfl)) dX5_bestPond_86 ⟨Nat.le_of_ble_eq_true rfl, Nat.le_of_ble_eq_true rfl⟩) hS (OA.ofD hD rfl hSz) (fun H locs hP hD1 hS _ _ => ?_)
                  have hP : va_P D vwCl (MW A t (m_next' (m_ways' (m_thrown' (m_s' μ f248) (0 : Int32)) r249.2.1) r249.2.2)) H := hP
                  have hD : va_D (OA (ML A) s.heap.size) (MW A t (m_next' (m_ways' (m_thrown' (m_s' μ f248) (0 : Int32)) r249.2.1) r249.2.2)) := hD1.weaken (fun _ q _ h9 => OA.ofD hD rfl hSz q.1 h9)
                  have hSz : s.heap.size ≤ H.size := hS.1
                  refine lv_istore (lv' := [(6, .int r249.1), (5, .int x227), (0, .ref (A 0)), (1, .int y1_24), (2, .int y2_24), (3, .int y3_11), (4, .int y4_24)]) hx hb dX5_bestPond_89 hl (by decide) rfl (fun ls hl => ?_)
                  refine lv_iload hx hb dX5_bestPond_91 (lv_at hl 0 rfl) ?_
                  refine lv_iload_n hx hb dX5_bestPond_93 rfl (lv_at hl 4 rfl) ?_
                  obtain ⟨o250, eo250, h⟩ := obind h
                  have hJ103_o250 : ∀ (ls : Array Slot) (H : Heap) (locs : List Loc), lv_has ls 7 [(0, .ref (A 0)), (2, .int y2_24), (3, .int y3_11), (4, .int y4_24), (6, .int r249.1)] → va_P D vwCl (MW A t (m_next' (m_ways' (m_thrown' (m_s' μ f248) (0 : Int32)) r249.2.1) r249.2.2)) H → va_D (OA (ML A) s.heap.size) (MW A t (m_next' (m_ways' (m_thrown' (m_s' μ f248) (0 : Int32)) r249.2.1) r249.2.2)) → va_S (OA (ML A) s.heap.size) s.heap H locs → W p l e (headSpec (ws_ yX5_bestPond cX5_bestPond 7 (some .int)) rm_X5_bestPond).room s m ([.ref (A 0)] : List Value).toArray below meth c H locs 0 0 (MQ below (QM (some (.int res.1)) D (MW A t (m_next' (m_ways' (m_thrown' (m_s' μ res.2.1) res.2.2.1) res.2.2.2.1) res.2.2.2.2)) (ML A) s.heap.size) ([.ref (A 0)] : List Value).toArray s 0 0 (OA (ML A) s.heap.size)) (F0 m 103 ls [.int o250]) := by
                    intro ls H locs hl hP hD hS
                    have hSz : s.heap.size ≤ H.size := hS.1
                    refine lv_istore_n (lv' := [(1, .int o250), (0, .ref (A 0)), (2, .int y2_24), (3, .int y3_11), (4, .int y4_24), (6, .int r249.1)]) hx hb dX5_bestPond_103 rfl hl (by decide) rfl (fun ls hl => ?_)
                    refine lv_iload hx hb dX5_bestPond_104 (lv_at hl 5 rfl) ?_
                    refine lv_iload_n hx hb dX5_bestPond_106 rfl (lv_at hl 2 rfl) ?_
                    obtain ⟨o251, eo251, h⟩ := obind h
                    have hJ116_o251 : ∀ (ls : Array Slot) (H : Heap) (locs : List Loc), lv_has ls 7 [(0, .ref (A 0)), (1, .int o250), (3, .int y3_11), (4, .int y4_24)] → va_P D vwCl (MW A t (m_next' (m_ways' (m_thrown' (m_s' μ f248) (0 : Int32)) r249.2.1) r249.2.2)) H → va_D (OA (ML A) s.heap.size) (MW A t (m_next' (m_ways' (m_thrown' (m_s' μ f248) (0 : Int32)) r249.2.1) r249.2.2)) → va_S (OA (ML A) s.heap.size) s.heap H locs → W p l e (headSpec (ws_ yX5_bestPond cX5_bestPond 7 (some .int)) rm_X5_bestPond).room s m ([.ref (A 0)] : List Value).toArray below meth c H locs 0 0 (MQ below (QM (some (.int res.1)) D (MW A t (m_next' (m_ways' (m_thrown' (m_s' μ res.2.1) res.2.2.1) res.2.2.2.1) res.2.2.2.2)) (ML A) s.heap.size) ([.ref (A 0)] : List Value).toArray s 0 0 (OA (ML A) s.heap.size)) (F0 m 116 ls [.int o251]) := by
                      intro ls H locs hl hP hD hS
                      have hSz : s.heap.size ≤ H.size := hS.1
                      refine lv_istore_n (lv' := [(2, .int o251), (0, .ref (A 0)), (1, .int o250), (3, .int y3_11), (4, .int y4_24)]) hx hb dX5_bestPond_116 rfl hl (by decide) rfl (fun ls hl => ?_)
                      obtain rfl := Option.some.inj h
                      exact hJ117_o240 ls H locs (lv_sub hl [1, 2, 0, 3, 4] rfl) hP hD hS
                    have h := eo251
                    clear eo251
                    refine lv_icmp_le (tgt := 115) hx hb dX5_bestPond_107 (by decide) (fun hc => ?_) (fun hc => ?_)
                    · have h := iteT hc h
                      refine lv_iload_n hx hb dX5_bestPond_115 rfl (lv_at hl 2 rfl) ?_
                      obtain rfl := Option.some.inj h
                      exact hJ116_o251 ls H locs (lv_sub hl [1, 0, 3, 4] rfl) hP hD hS
                    · have h := iteF hc h
                      refine lv_iload hx hb dX5_bestPond_110 (lv_at hl 5 rfl) ?_
                      refine lv_goto (tgt := 116) hx hb dX5_bestPond_112 (by decide) ?_
                      obtain rfl := Option.some.inj h
                      exact hJ116_o251 ls H locs (lv_sub hl [1, 0, 3, 4] rfl) hP hD hS
                  have h := eo250
                  clear eo250
                  refine lv_icmp_le (tgt := 102) hx hb dX5_bestPond_94 (by decide) (fun hc => ?_) (fun hc => ?_)
                  · have h := iteT hc h
                    refine lv_iload_n hx hb dX5_bestPond_102 rfl (lv_at hl 3 rfl) ?_
                    obtain rfl := Option.some.inj h
                    exact hJ103_o250 ls H locs (lv_sub hl [2, 4, 5, 6, 0] rfl) hP hD hS
                  · have h := iteF hc h
                    refine lv_iload hx hb dX5_bestPond_97 (lv_at hl 1 rfl) ?_
                    refine lv_goto (tgt := 103) hx hb dX5_bestPond_99 (by decide) ?_
                    obtain rfl := Option.some.inj h
                    exact hJ103_o250 ls H locs (lv_sub hl [2, 4, 5, 6, 0] rfl) hP hD hS
        refine hL24 _ _ _ _ _ _ _ _ eo225 (fun ls H locs hl hP hD hS => ?_) ls H locs (lv_sub hl [1, 2, 3, 4, 0] rfl) hP hD hS
        have hSz : s.heap.size ≤ H.size := hS.1
        obtain ⟨x253, ex253, h⟩ := jlet_some h
        refine lv_iinc (v := x253) (lv' := [(3, .int x253), (0, .ref (A 0)), (1, .int o225.1), (2, .int o225.2.1)]) hx hb dX5_bestPond_123 hl (k := 3) rfl (by rw [ex253]; rfl) (by decide) rfl (fun ls hl => ?_)
        refine lv_goto (tgt := 11) hx hb dX5_bestPond_126 (by decide) ?_
        exact ih _ _ _ _ _ _ _ h hK11 ls H locs (lv_sub hl [1, 2, 3, 0] rfl) hP hD hS
  refine hL11 _ _ _ _ _ _ _ _ eo169 (fun ls H locs hl hP hD hS => ?_) ls H locs (lv_sub hl [3, 2, 1, 0] rfl) hP hD hS
  have hSz : s.heap.size ≤ H.size := hS.1
  refine lv_iload_n hx hb dX5_bestPond_129 rfl (lv_at hl 0 rfl) ?_
  obtain ⟨r254, er254, h⟩ := obind h
  refine call_R (va_runS (As := [.int o169.1]) (rest := []) ⟨hx, hb, hml, hown, hts⟩ (c_X5_told l z0 D t o169.1 _ er254) (kS hts qw1221 qw1222 qw9 qw1223 ok_X5_told ⟨Nat.le_of_ble_eq_true rfl, Nat.le_of_ble_eq_true rfl⟩) ⟨PR.blind, fun U hU hW => ⟨rfl, by rw [hU]; exact (hC.at hS hZ).warm hW, by rw [hU]; exact va_P_nil⟩⟩ rfl rfl hl.1 rfl (lv_room (Nat.le_of_ble_eq_true rfl)) dX5_bestPond_130 ⟨Nat.le_of_ble_eq_true rfl, Nat.le_of_ble_eq_true rfl⟩) ?_
  obtain rfl := Option.some.inj h
  exact W.iret hx hb hr (fun t ht hW => ⟨rfl, by rw [ht]; exact hP, hD, hS.F ht⟩) hS.2.2 dX5_bestPond_133

abbrev rm_X5_share : Room := { frames := 3, cells := 0, slots := 0, locals := 84 }
theorem ok_X5_share : okY yX5_share 0 := ⟨by decide +kernel, by decide +kernel, by decide +kernel⟩
set_option maxHeartbeats 4000000 in
set_option maxRecDepth 100000 in
theorem c_X5_share (l : Launch) (z0 : Nat) (D : va_G) (t : Nat → ClassId) (A : Nat → Nat) (μ : MS) (res : UInt64) (h : f_X5_share μ = some res) : Met l yX5_share (ws_ yX5_share cX5_share 3 (some .double)) rm_X5_share (PR z0 D t [.ref (A 0)] (MW A t μ)) (QR (some (.double res))) 0 0 FN := by
  refine Met.ofW (cc := cX5_share) (maxL := 3) (ret := (some .double)) (by decide) rfl ?_
  intro p e s m args below meth c s₁ Bo hml hv
  obtain ⟨rfl, hC, hP⟩ := hv
  have hx := Bo.exec
  have hb := Bo.bytes
  have hr := Bo.returns
  have hts : ∀ w ∈ LA, w.before _ s = true := fun w hw => atoms_spec (ws := ws_ yX5_share cX5_share 3 (some .double)) Bo.pre w (List.mem_cons_of_mem _ hw)
  have hown : s.vm.findClass RX5 = some m.cls := findClass_of_methodNamed Bo.named
  have hlocks := Bo.notSynchronized
  have hK := hC.1
  have hl := lv_entry ([.ref (A 0)]) (n := 3) (Nat.le_of_ble_eq_true rfl)
  rw [lg_entry_eq]
  generalize (lg_sl ([.ref (A 0)]) ++ List.replicate (3 - (lg_sl ([.ref (A 0)])).length) Slot.unset).toArray = ls at hl ⊢
  have hl : lv_has ls 3 [(0, .ref (A 0))] := hl
  unfold f_X5_share at h
  refine lv_iconst (v := (3)) hx hb dX5_share_0 (by decide) ?_
  refine lv_aload_n hx hb dX5_share_1 rfl (lv_at hl 0 rfl) ?_
  refine va_get hx hb hts inX5 hown hK hP 0 rfl rfl 0 (by decide) (hts _ qw967) (fun _ h9 => h9) rfl dX5_share_2 ?_
  refine lv_sipush (v := (131)) hx hb dX5_share_5 (by decide) ?_
  obtain ⟨v1, ev1, h⟩ := obind h
  refine k_iald hx hb hK hP 1 rfl ev1 dX5_share_8 ?_
  refine lv_imul hx hb dX5_share_9 ?_
  obtain ⟨x2, ex2, h⟩ := jlet_some h
  refine topI ex2 ?_
  refine lv_istore_n (lv' := [(1, .int x2), (0, .ref (A 0))]) hx hb dX5_share_10 rfl hl (by decide) rfl (fun ls hl => ?_)
  refine lv_iload_n hx hb dX5_share_11 rfl (lv_at hl 0 rfl) ?_
  refine lv_aload_n hx hb dX5_share_12 rfl (lv_at hl 1 rfl) ?_
  obtain ⟨r3, er3, h⟩ := obind h
  refine call_R (va_runV (As := []) (rest := [.int x2]) ⟨hx, hb, hml, hown, hts⟩ (c_X5_free l z0 D t A μ _ er3) (kV hts qw1138 qw1140 qs51 qw9 qw1141 ok_X5_free ⟨Nat.le_of_ble_eq_true rfl, Nat.le_of_ble_eq_true rfl⟩) ⟨PR.blind, va_recv hK hP (ci := 6) (q0 := 0) rfl rfl, fun U hU hW => ⟨rfl, by rw [hU]; exact hC.warm hW, by rw [hU]; exact hP⟩⟩ rfl rfl hl.1 rfl (lv_room (Nat.le_of_ble_eq_true rfl)) dX5_share_13 ⟨Nat.le_of_ble_eq_true rfl, Nat.le_of_ble_eq_true rfl⟩) ?_
  refine lv_iadd hx hb dX5_share_16 ?_
  obtain ⟨x4, ex4, h⟩ := jlet_some h
  refine topI ex4 ?_
  refine lv_istore_n (lv' := [(2, .int x4), (1, .int x2), (0, .ref (A 0))]) hx hb dX5_share_17 rfl hl (by decide) rfl (fun ls hl => ?_)
  refine lv_iload_n hx hb dX5_share_18 rfl (lv_at hl 0 rfl) ?_
  refine lv_if_ne (tgt := 26) hx hb dX5_share_19 (by decide) (fun hc => ?_) (fun hc => ?_)
  · have h := iteF hc h
    refine lv_iload_n hx hb dX5_share_26 rfl (lv_at hl 1 rfl) ?_
    refine lv_i2d hx hb dX5_share_27 ?_
    refine lv_iload_n hx hb dX5_share_28 rfl (lv_at hl 0 rfl) ?_
    refine lv_i2d hx hb dX5_share_29 ?_
    obtain ⟨d5, ed5, h⟩ := obind h
    refine lv_ddiv hx hb dX5_share_30 (dfin_some ed5).2 ?_
    refine topD (dfin_some ed5).1 ?_
    obtain rfl := Option.some.inj h
    exact W.dret hx hb hr (fun t ht hW => ⟨rfl, ht⟩) (fun q hq => absurd hq List.not_mem_nil) dX5_share_31
  · have h := iteT hc h
    refine lv_dconst1 hx hb dX5_share_22 ?_
    refine lv_goto (tgt := 31) hx hb dX5_share_23 (by decide) ?_
    obtain rfl := Option.some.inj h
    exact W.dret hx hb hr (fun t ht hW => ⟨rfl, ht⟩) (fun q hq => absurd hq List.not_mem_nil) dX5_share_31

abbrev rm_X5_pavedShare : Room := { frames := 4, cells := 0, slots := 0, locals := 106 }
theorem ok_X5_pavedShare : okY yX5_pavedShare 0 := ⟨by decide +kernel, by decide +kernel, by decide +kernel⟩
set_option maxHeartbeats 4000000 in
set_option maxRecDepth 100000 in
theorem c_X5_pavedShare (l : Launch) (z0 : Nat) (D : va_G) (t : Nat → ClassId) (A : Nat → Nat) (μ : MS) (res : UInt64 × (Int32)) (sz : Nat) (h : f_X5_pavedShare μ = some res) : Met l yX5_pavedShare (ws_ yX5_pavedShare cX5_pavedShare 1 (some .double)) rm_X5_pavedShare (PM z0 D t [.ref (A 0)] (MW A t μ) (ML A) sz) (QM (some (.double res.1)) D (MW A t (m_thrown' μ res.2)) (ML A) sz) 0 0 (OA (ML A) sz) := by
  refine Met.ofW (cc := cX5_pavedShare) (maxL := 1) (ret := (some .double)) (by decide) rfl ?_
  intro p e s m args below meth c s₁ Bo hml hv
  obtain ⟨rfl, hC, hsz, hP, hD, hZ⟩ := hv
  have hx := Bo.exec
  have hb := Bo.bytes
  have hr := Bo.returns
  have hts : ∀ w ∈ LA, w.before _ s = true := fun w hw => atoms_spec (ws := ws_ yX5_pavedShare cX5_pavedShare 1 (some .double)) Bo.pre w (List.mem_cons_of_mem _ hw)
  have hown : s.vm.findClass RX5 = some m.cls := findClass_of_methodNamed Bo.named
  have hlocks := Bo.notSynchronized
  have hK := hC.1
  subst hsz
  have hl := lv_entry ([.ref (A 0)]) (n := 1) (Nat.le_of_ble_eq_true rfl)
  rw [lg_entry_eq]
  generalize (lg_sl ([.ref (A 0)]) ++ List.replicate (1 - (lg_sl ([.ref (A 0)])).length) Slot.unset).toArray = ls at hl ⊢
  have hl : lv_has ls 1 [(0, .ref (A 0))] := hl
  suffices K9 : ∀ (H : Heap) (locs : List Loc), va_P D vwCl (MW A t μ) H → va_S (OA (ML A) s.heap.size) s.heap H locs → W p l e (headSpec (ws_ yX5_pavedShare cX5_pavedShare 1 (some .double)) rm_X5_pavedShare).room s m ([.ref (A 0)] : List Value).toArray below meth c H locs 0 0 (MQ below (QM (some (.double res.1)) D (MW A t (m_thrown' μ res.2)) (ML A) s.heap.size) ([.ref (A 0)] : List Value).toArray s 0 0 (OA (ML A) s.heap.size)) (F0 m 0 ls []) from K9 s.heap [] hP va_S.rf
  intro H locs hP hS
  have hSz : s.heap.size ≤ H.size := hS.1
  unfold f_X5_pavedShare at h
  refine lv_aload_n hx hb dX5_pavedShare_0 rfl (lv_at hl 0 rfl) ?_
  refine lv_iconst (v := (0)) hx hb dX5_pavedShare_1 (by decide) ?_
  refine va_put (D := D) (ci := 6) (v := .int (0 : Int32)) (ty := .int) hx hb hts inX5 tyX5 tyX5_ok nmX5 hown hK hP hD hS 0 rfl rfl 3 (by decide) (hts _ qw970) (fun _ h9 => h9) rfl (by decide +kernel) rfl rfl (Nat.le_of_ble_eq_true rfl) dX5_pavedShare_2 (fun H locs hP hD hS => ?_)
  have hP : va_P D vwCl (MW A t (m_thrown' μ (0 : Int32))) H := hP
  have hD : va_D (OA (ML A) s.heap.size) (MW A t (m_thrown' μ (0 : Int32))) := hD
  have hSz : s.heap.size ≤ H.size := hS.1
  refine lv_aload_n hx hb dX5_pavedShare_5 rfl (lv_at hl 0 rfl) ?_
  obtain ⟨r1, er1, h⟩ := obind h
  refine call_R (va_runV (As := []) (rest := []) ⟨hx, hb, hml, hown, hts⟩ (c_X5_share l z0 D t A (m_thrown' μ (0 : Int32)) _ er1) (kV hts qw1236 qw1238 qs60 qw9 qw1239 ok_X5_share ⟨Nat.le_of_ble_eq_true rfl, Nat.le_of_ble_eq_true rfl⟩) ⟨PR.blind, va_recv hK hP (ci := 6) (q0 := 0) rfl rfl, fun U hU hW => ⟨rfl, by rw [hU]; exact (hC.at hS hZ).warm hW, by rw [hU]; exact hP⟩⟩ rfl rfl hl.1 rfl (lv_room (Nat.le_of_ble_eq_true rfl)) dX5_pavedShare_6 ⟨Nat.le_of_ble_eq_true rfl, Nat.le_of_ble_eq_true rfl⟩) ?_
  obtain rfl := Option.some.inj h
  exact W.dret hx hb hr (fun t ht hW => ⟨rfl, by rw [ht]; exact hP, hD, hS.F ht⟩) hS.2.2 dX5_pavedShare_9
