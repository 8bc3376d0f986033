abbrev rm_X5_lay : Room := { frames := 2, cells := 0, slots := 0, locals := 68 }
theorem ok_X5_lay : okY yX5_lay 3 := ⟨by decide +kernel, by decide +kernel, by decide +kernel⟩
set_option maxHeartbeats 4000000 in
set_option maxRecDepth 100000 in
theorem c_X5_lay (l : Launch) (z0 : Nat) (D : va_G) (t : Nat → ClassId) (A : Nat → Nat) (μ : MS) (a1 : Int32) (a2 : Int32) (a3 : Int32) (res : Int32 × (Nat → Int32) × (Int32) × (Int32)) (sz : Nat) (h : f_X5_lay μ a1 a2 a3 = some res) : Met l yX5_lay (ws_ yX5_lay cX5_lay 5 (some .int)) rm_X5_lay (PM z0 D t [.ref (A 0), .int a1, .int a2, .int a3] (MW A t μ) (ML A) sz) (QM (some (.int res.1)) D (MW A t (m_thrown' (m_states' (m_s' μ res.2.1) res.2.2.1) res.2.2.2)) (ML A) sz) 0 0 (OA (ML A) sz) := by
  refine Met.ofW (cc := cX5_lay) (maxL := 5) (ret := (some .int)) (by decide) rfl ?_
  intro p e s m args below meth c s₁ Bo hml hv
  obtain ⟨rfl, hC, hsz, hP, hD, hZ⟩ := hv
  have hx := Bo.exec
  have hb := Bo.bytes
  have hr := Bo.returns
  have hts : ∀ w ∈ LA, w.before _ s = true := fun w hw => atoms_spec (ws := ws_ yX5_lay cX5_lay 5 (some .int)) Bo.pre w (List.mem_cons_of_mem _ hw)
  have hown : s.vm.findClass RX5 = some m.cls := findClass_of_methodNamed Bo.named
  have hlocks := Bo.notSynchronized
  have hK := hC.1
  subst hsz
  have hl := lv_entry ([.ref (A 0), .int a1, .int a2, .int a3]) (n := 5) (Nat.le_of_ble_eq_true rfl)
  rw [lg_entry_eq]
  generalize (lg_sl ([.ref (A 0), .int a1, .int a2, .int a3]) ++ List.replicate (5 - (lg_sl ([.ref (A 0), .int a1, .int a2, .int a3])).length) Slot.unset).toArray = ls at hl ⊢
  have hl : lv_has ls 5 [(0, .ref (A 0)), (1, .int a1), (2, .int a2), (3, .int a3)] := hl
  suffices K9 : ∀ (H : Heap) (locs : List Loc), va_P D vwCl (MW A t μ) H → va_S (OA (ML A) s.heap.size) s.heap H locs → W p l e (headSpec (ws_ yX5_lay cX5_lay 5 (some .int)) rm_X5_lay).room s m ([.ref (A 0), .int a1, .int a2, .int a3] : List Value).toArray below meth c H locs 0 0 (MQ below (QM (some (.int res.1)) D (MW A t (m_thrown' (m_states' (m_s' μ res.2.1) res.2.2.1) res.2.2.2)) (ML A) s.heap.size) ([.ref (A 0), .int a1, .int a2, .int a3] : List Value).toArray s 0 0 (OA (ML A) s.heap.size)) (F0 m 0 ls []) from K9 s.heap [] hP va_S.rf
  intro H locs hP hS
  have hSz : s.heap.size ≤ H.size := hS.1
  unfold f_X5_lay at h
  refine lv_aload_n hx hb dX5_lay_0 rfl (lv_at hl 0 rfl) ?_
  refine lv_iload_n hx hb dX5_lay_1 rfl (lv_at hl 3 rfl) ?_
  refine lv_iconst (v := (0)) hx hb dX5_lay_2 (by decide) ?_
  refine lv_iconst (v := (3)) hx hb dX5_lay_3 (by decide) ?_
  obtain ⟨r1, er1, h⟩ := obind h
  refine call_R (va_runS (As := [.int a3, .int (0 : Int32), .int (3 : Int32)]) (rest := [.ref (A 0)]) ⟨hx, hb, hml, hown, hts⟩ (c_X5_in l z0 D t a3 (0 : Int32) (3 : Int32) _ er1) (kS hts qw1008 qw1009 qw9 qw1010 ok_X5_in ⟨Nat.le_of_ble_eq_true rfl, Nat.le_of_ble_eq_true rfl⟩) ⟨PR.blind, fun U hU hW => ⟨rfl, by rw [hU]; exact (hC.at hS hZ).warm hW, by rw [hU]; exact va_P_nil⟩⟩ rfl rfl hl.1 rfl (lv_room (Nat.le_of_ble_eq_true rfl)) dX5_lay_4 ⟨Nat.le_of_ble_eq_true rfl, Nat.le_of_ble_eq_true rfl⟩) ?_
  refine lv_iconst (v := (1)) hx hb dX5_lay_7 (by decide) ?_
  obtain ⟨r2, er2, h⟩ := obind h
  refine call_M (va_runV (As := [.int r1, .int (1 : Int32)]) (rest := []) ⟨hx, hb, hml, hown, hts⟩ (c_X5_goes l z0 D t A μ r1 (1 : Int32) _ H.size er2) (kV hts qw1011 qw1013 qs31 qw9 qw1014 ok_X5_goes ⟨Nat.le_of_ble_eq_true rfl, Nat.le_of_ble_eq_true rfl⟩) ⟨PM.blind, va_recv hK hP (ci := 6) (q0 := 0) rfl rfl, fun U hU hW => ⟨rfl, by rw [hU]; exact (hC.at hS hZ).warm hW, by rw [hU], by rw [hU]; exact hP, ⟨hD.1, fun _ _ h9 => Or.inl (in_map (L := (ML A)) rfl h9)⟩, fun q hq => hZ q (OA.ofD hD rfl hSz q hq)⟩⟩ rfl rfl hl.1 rfl (lv_room (Nat.le_of_ble_eq_true rfl)) dX5_lay_8 ⟨Nat.le_of_ble_eq_true rfl, Nat.le_of_ble_eq_true rfl⟩) hS (OA.ofD hD rfl hSz) (fun H locs hP hD1 hS _ _ => ?_)
  have hP : va_P D vwCl (MW A t (m_thrown' μ r2.2)) H := hP
  have hD : va_D (OA (ML A) s.heap.size) (MW A t (m_thrown' μ r2.2)) := hD1.weaken (fun _ q _ h9 => OA.ofD hD rfl hSz q.1 h9)
  have hSz : s.heap.size ≤ H.size := hS.1
  refine lv_if_ne (tgt := 16) hx hb dX5_lay_11 (by decide) (fun hc => ?_) (fun hc => ?_)
  · have h := iteF hc h
    refine lv_aload_n hx hb dX5_lay_16 rfl (lv_at hl 0 rfl) ?_
    obtain ⟨r3, er3, h⟩ := obind h
    refine call_M (va_runV (As := []) (rest := []) ⟨hx, hb, hml, hown, hts⟩ (c_X5_saves l z0 D t A (m_thrown' μ r2.2) _ H.size er3) (kV hts qw1015 qw1017 qs32 qw9 qw1018 ok_X5_saves ⟨Nat.le_of_ble_eq_true rfl, Nat.le_of_ble_eq_true rfl⟩) ⟨PM.blind, va_recv hK hP (ci := 6) (q0 := 0) rfl rfl, fun U hU hW => ⟨rfl, by rw [hU]; exact (hC.at hS hZ).warm hW, by rw [hU], by rw [hU]; exact hP, ⟨hD.1, fun _ _ h9 => Or.inl (in_map (L := (ML A)) rfl h9)⟩, fun q hq => hZ q (OA.ofD hD rfl hSz q hq)⟩⟩ rfl rfl hl.1 rfl (lv_room (Nat.le_of_ble_eq_true rfl)) dX5_lay_17 ⟨Nat.le_of_ble_eq_true rfl, Nat.le_of_ble_eq_true rfl⟩) hS (OA.ofD hD rfl hSz) (fun H locs hP hD1 hS _ _ => ?_)
    have hP : va_P D vwCl (MW A t (m_thrown' (m_states' (m_s' μ r3.1) r3.2) r2.2)) H := hP
    have hD : va_D (OA (ML A) s.heap.size) (MW A t (m_thrown' (m_states' (m_s' μ r3.1) r3.2) r2.2)) := hD1.weaken (fun _ q _ h9 => OA.ofD hD rfl hSz q.1 h9)
    have hSz : s.heap.size ≤ H.size := hS.1
    refine lv_aload_n hx hb dX5_lay_20 rfl (lv_at hl 0 rfl) ?_
    refine lv_iconst (v := (0)) hx hb dX5_lay_21 (by decide) ?_
    refine lv_iload_n hx hb dX5_lay_22 rfl (lv_at hl 1 rfl) ?_
    refine lv_iload_n hx hb dX5_lay_23 rfl (lv_at hl 2 rfl) ?_
    refine lv_iload_n hx hb dX5_lay_24 rfl (lv_at hl 3 rfl) ?_
    obtain ⟨r4, er4, h⟩ := obind h
    refine call_R (va_runV (As := [.int (0 : Int32), .int a1, .int a2, .int a3]) (rest := []) ⟨hx, hb, hml, hown, hts⟩ (c_X5_wrong l z0 D t A (m_thrown' (m_states' (m_s' μ r3.1) r3.2) r2.2) (0 : Int32) a1 a2 a3 _ er4) (kV hts qw1043 qw1045 qs36 qw9 qw1046 ok_X5_wrong ⟨Nat.le_of_ble_eq_true rfl, Nat.le_of_ble_eq_true rfl⟩) ⟨PR.blind, va_recv hK hP (ci := 6) (q0 := 0) rfl rfl, fun U hU hW => ⟨rfl, by rw [hU]; exact (hC.at hS hZ).warm hW, by rw [hU]; exact hP⟩⟩ rfl rfl hl.1 rfl (lv_room (Nat.le_of_ble_eq_true rfl)) dX5_lay_25 ⟨Nat.le_of_ble_eq_true rfl, Nat.le_of_ble_eq_true rfl⟩) ?_
    refine lv_istore (lv' := [(4, .int r4), (0, .ref (A 0)), (1, .int a1), (2, .int a2), (3, .int a3)]) hx hb dX5_lay_28 hl (by decide) rfl (fun ls hl => ?_)
    refine lv_iload hx hb dX5_lay_30 (lv_at hl 0 rfl) ?_
    refine lv_if_le (tgt := 50) hx hb dX5_lay_32 (by decide) (fun hc => ?_) (fun hc => ?_)
    · have h := iteT hc h
      refine lv_aload_n hx hb dX5_lay_50 rfl (lv_at hl 1 rfl) ?_
      refine lv_iconst (v := (0)) hx hb dX5_lay_51 (by decide) ?_
      refine lv_iload_n hx hb dX5_lay_52 rfl (lv_at hl 2 rfl) ?_
      refine lv_iload_n hx hb dX5_lay_53 rfl (lv_at hl 3 rfl) ?_
      refine lv_iload_n hx hb dX5_lay_54 rfl (lv_at hl 4 rfl) ?_
      obtain ⟨r5, er5, h⟩ := obind h
      refine call_M (va_runV (As := [.int (0 : Int32), .int a1, .int a2, .int a3]) (rest := []) ⟨hx, hb, hml, hown, hts⟩ (c_X5_lays l z0 D t A (m_thrown' (m_states' (m_s' μ r3.1) r3.2) r2.2) (0 : Int32) a1 a2 a3 _ H.size er5) (kV hts qw1050 qw1052 qs37 qw9 qw1053 ok_X5_lays ⟨Nat.le_of_ble_eq_true rfl, Nat.le_of_ble_eq_true rfl⟩) ⟨PM.blind, va_recv hK hP (ci := 6) (q0 := 0) rfl rfl, fun U hU hW => ⟨rfl, by rw [hU]; exact (hC.at hS hZ).warm hW, by rw [hU], by rw [hU]; exact hP, ⟨hD.1, fun _ _ h9 => Or.inl (in_map (L := (ML A)) rfl h9)⟩, fun q hq => hZ q (OA.ofD hD rfl hSz q hq)⟩⟩ rfl rfl hl.1 rfl (lv_room (Nat.le_of_ble_eq_true rfl)) dX5_lay_55 ⟨Nat.le_of_ble_eq_true rfl, Nat.le_of_ble_eq_true rfl⟩) hS (OA.ofD hD rfl hSz) (fun H locs hP hD1 hS _ _ => ?_)
      have hP : va_P D vwCl (MW A t (m_thrown' (m_states' (m_s' μ r5) r3.2) r2.2)) H := hP
      have hD : va_D (OA (ML A) s.heap.size) (MW A t (m_thrown' (m_states' (m_s' μ r5) r3.2) r2.2)) := hD1.weaken (fun _ q _ h9 => OA.ofD hD rfl hSz q.1 h9)
      have hSz : s.heap.size ≤ H.size := hS.1
      refine lv_iload hx hb dX5_lay_58 (lv_at hl 0 rfl) ?_
      obtain rfl := Option.some.inj h
      exact W.iret hx hb hr (fun t ht hW => ⟨rfl, by rw [ht]; exact hP, hD, hS.F ht⟩) hS.2.2 dX5_lay_60
    · have h := iteF hc h
      refine lv_aload_n hx hb dX5_lay_35 rfl (lv_at hl 1 rfl) ?_
      refine va_get hx hb hts inX5 hown hK hP 0 rfl rfl 0 (by decide) (hts _ qw967) (fun _ h9 => h9) rfl dX5_lay_36 ?_
      refine lv_sipush (v := (196)) hx hb dX5_lay_39 (by decide) ?_
      refine lv_dup2_11 hx hb dX5_lay_42 rfl rfl ?_
      obtain ⟨v6, ev6, h⟩ := obind h
      refine k_iald hx hb hK hP 1 rfl ev6 dX5_lay_43 ?_
      refine lv_iconst (v := (1)) hx hb dX5_lay_44 (by decide) ?_
      refine lv_iadd hx hb dX5_lay_45 ?_
      obtain ⟨f7, ef7, h⟩ := obind h
      refine k_iast (ws' := (MW A t (m_thrown' (m_states' (m_s' μ f7) r3.2) r2.2))) hx hb hK hP hD hS 1 rfl ef7 rfl dX5_lay_46 (fun H locs hP hD hS => ?_)
      have hSz : s.heap.size ≤ H.size := hS.1
      refine lv_goto (tgt := 58) hx hb dX5_lay_47 (by decide) ?_
      refine lv_iload hx hb dX5_lay_58 (lv_at hl 0 rfl) ?_
      obtain rfl := Option.some.inj h
      exact W.iret hx hb hr (fun t ht hW => ⟨rfl, by rw [ht]; exact hP, hD, hS.F ht⟩) hS.2.2 dX5_lay_60
  · have h := iteT hc h
    refine lv_iconst (v := (0)) hx hb dX5_lay_14 (by decide) ?_
    obtain rfl := Option.some.inj h
    exact W.iret hx hb hr (fun t ht hW => ⟨rfl, by rw [ht]; exact hP, hD, hS.F ht⟩) hS.2.2 dX5_lay_15

abbrev rm_X5_lifts : Room := { frames := 0, cells := 0, slots := 0, locals := 0 }
theorem ok_X5_lifts : okY yX5_lifts 2 := ⟨by decide +kernel, by decide +kernel, by decide +kernel⟩
set_option maxHeartbeats 4000000 in
set_option maxRecDepth 100000 in
theorem c_X5_lifts (l : Launch) (z0 : Nat) (D : va_G) (t : Nat → ClassId) (A : Nat → Nat) (μ : MS) (a1 : Int32) (a2 : Int32) (res : (Nat → Int32)) (sz : Nat) (h : f_X5_lifts μ a1 a2 = some res) : Met l yX5_lifts (ws_ yX5_lifts cX5_lifts 5 none) rm_X5_lifts (PM z0 D t [.ref (A 0), .int a1, .int a2] (MW A t μ) (ML A) sz) (QM none D (MW A t (m_s' μ res)) (ML A) sz) 0 0 (OA (ML A) sz) := by
  refine Met.ofW (cc := cX5_lifts) (maxL := 5) (ret := none) (by decide) rfl ?_
  intro p e s m args below meth c s₁ Bo hml hv
  obtain ⟨rfl, hC, hsz, hP, hD, hZ⟩ := hv
  have hx := Bo.exec
  have hb := Bo.bytes
  have hr := Bo.returns
  have hts : ∀ w ∈ LA, w.before _ s = true := fun w hw => atoms_spec (ws := ws_ yX5_lifts cX5_lifts 5 none) Bo.pre w (List.mem_cons_of_mem _ hw)
  have hown : s.vm.findClass RX5 = some m.cls := findClass_of_methodNamed Bo.named
  have hlocks := Bo.notSynchronized
  have hK := hC.1
  subst hsz
  have hl := lv_entry ([.ref (A 0), .int a1, .int a2]) (n := 5) (Nat.le_of_ble_eq_true rfl)
  rw [lg_entry_eq]
  generalize (lg_sl ([.ref (A 0), .int a1, .int a2]) ++ List.replicate (5 - (lg_sl ([.ref (A 0), .int a1, .int a2])).length) Slot.unset).toArray = ls at hl ⊢
  have hl : lv_has ls 5 [(0, .ref (A 0)), (1, .int a1), (2, .int a2)] := hl
  suffices K9 : ∀ (H : Heap) (locs : List Loc), va_P D vwCl (MW A t μ) H → va_S (OA (ML A) s.heap.size) s.heap H locs → W p l e (headSpec (ws_ yX5_lifts cX5_lifts 5 none) rm_X5_lifts).room s m ([.ref (A 0), .int a1, .int a2] : List Value).toArray below meth c H locs 0 0 (MQ below (QM none D (MW A t (m_s' μ res)) (ML A) s.heap.size) ([.ref (A 0), .int a1, .int a2] : List Value).toArray s 0 0 (OA (ML A) s.heap.size)) (F0 m 0 ls []) from K9 s.heap [] hP va_S.rf
  intro H locs hP hS
  have hSz : s.heap.size ≤ H.size := hS.1
  unfold f_X5_lifts at h
  refine lv_iconst (v := (0)) hx hb dX5_lifts_0 (by decide) ?_
  refine lv_istore_n (lv' := [(3, .int (0 : Int32)), (0, .ref (A 0)), (1, .int a1), (2, .int a2)]) hx hb dX5_lifts_1 rfl hl (by decide) rfl (fun ls hl => ?_)
  obtain ⟨o9, eo9, h⟩ := obind h
  have hL2 : ∀ (n : Nat) (y3_2 : Int32) (s_2 : Nat → Int32) (o9 : (Nat → Int32)), f_X5_lifts_L2 a1 a2 n y3_2 s_2 = some o9 → (∀ (ls : Array Slot) (H : Heap) (locs : List Loc), lv_has ls 5 [(0, .ref (A 0)), (1, .int a1), (2, .int a2)] → va_P D vwCl (MW A t (m_s' μ o9)) H → va_D (OA (ML A) s.heap.size) (MW A t (m_s' μ o9)) → va_S (OA (ML A) s.heap.size) s.heap H locs → W p l e (headSpec (ws_ yX5_lifts cX5_lifts 5 none) rm_X5_lifts).room s m ([.ref (A 0), .int a1, .int a2] : List Value).toArray below meth c H locs 0 0 (MQ below (QM none D (MW A t (m_s' μ res)) (ML A) s.heap.size) ([.ref (A 0), .int a1, .int a2] : List Value).toArray s 0 0 (OA (ML A) s.heap.size)) (F0 m 63 ls [])) → ∀ (ls : Array Slot) (H : Heap) (locs : List Loc), lv_has ls 5 [(0, .ref (A 0)), (1, .int a1), (2, .int a2), (3, .int y3_2)] → va_P D vwCl (MW A t (m_s' μ s_2)) H → va_D (OA (ML A) s.heap.size) (MW A t (m_s' μ s_2)) → va_S (OA (ML A) s.heap.size) s.heap H locs → W p l e (headSpec (ws_ yX5_lifts cX5_lifts 5 none) rm_X5_lifts).room s m ([.ref (A 0), .int a1, .int a2] : List Value).toArray below meth c H locs 0 0 (MQ below (QM none D (MW A t (m_s' μ res)) (ML A) s.heap.size) ([.ref (A 0), .int a1, .int a2] : List Value).toArray s 0 0 (OA (ML A) s.heap.size)) (F0 m 2 ls []) := by
    intro n
    induction n with
    | zero => intro y3_2 s_2 o9 h; exact absurd h (fun z => by cases z)
    | succ n ih =>
      intro y3_2 s_2 o9 h hK2 ls H locs hl hP hD hS
      replace h : f_X5_lifts_L2_b a1 a2 (f_X5_lifts_L2 a1 a2 n) y3_2 s_2 = some o9 := h
      unfold f_X5_lifts_L2_b at h
      have hSz : s.heap.size ≤ H.size := hS.1
      refine lv_iload_n hx hb dX5_lifts_2 rfl (lv_at hl 3 rfl) ?_
      refine lv_bipush (v := (64)) hx hb dX5_lifts_3 (by decide) ?_
      refine lv_icmp_ge (tgt := 63) hx hb dX5_lifts_5 (by decide) (fun hc => ?_) (fun hc => ?_)
      · have h := iteT hc h
        obtain rfl := Option.some.inj h
        exact hK2 ls H locs (lv_sub hl [0, 1, 2] rfl) hP hD hS
      · have h := iteF hc h
        refine lv_aload_n hx hb dX5_lifts_8 rfl (lv_at hl 0 rfl) ?_
        refine va_get hx hb hts inX5 hown hK hP 0 rfl rfl 0 (by decide) (hts _ qw967) (fun _ h9 => h9) rfl dX5_lifts_9 ?_
        refine lv_iload_n hx hb dX5_lifts_12 rfl (lv_at hl 1 rfl) ?_
        refine lv_bipush (v := (67)) hx hb dX5_lifts_13 (by decide) ?_
        refine lv_iadd hx hb dX5_lifts_15 ?_
        refine lv_iload_n hx hb dX5_lifts_16 rfl (lv_at hl 3 rfl) ?_
        refine lv_iadd hx hb dX5_lifts_17 ?_
        obtain ⟨v10, ev10, h⟩ := obind h
        refine k_iald hx hb hK hP 1 rfl ev10 dX5_lifts_18 ?_
        refine lv_istore (lv' := [(4, .int v10), (0, .ref (A 0)), (1, .int a1), (2, .int a2), (3, .int y3_2)]) hx hb dX5_lifts_19 hl (by decide) rfl (fun ls hl => ?_)
        refine lv_aload_n hx hb dX5_lifts_21 rfl (lv_at hl 1 rfl) ?_
        refine va_get hx hb hts inX5 hown hK hP 0 rfl rfl 0 (by decide) (hts _ qw967) (fun _ h9 => h9) rfl dX5_lifts_22 ?_
        refine lv_iload_n hx hb dX5_lifts_25 rfl (lv_at hl 2 rfl) ?_
        refine lv_bipush (v := (67)) hx hb dX5_lifts_26 (by decide) ?_
        refine lv_iadd hx hb dX5_lifts_28 ?_
        refine lv_iload_n hx hb dX5_lifts_29 rfl (lv_at hl 4 rfl) ?_
        refine lv_iadd hx hb dX5_lifts_30 ?_
        refine lv_iload hx hb dX5_lifts_31 (lv_at hl 0 rfl) ?_
        refine lv_iload_n hx hb dX5_lifts_33 rfl (lv_at hl 3 rfl) ?_
        obtain ⟨o11, eo11, h⟩ := obind h
        have hJ56_o11 : ∀ (ls : Array Slot) (H : Heap) (locs : List Loc), lv_has ls 5 [(0, .ref (A 0)), (1, .int a1), (2, .int a2), (3, .int y3_2)] → va_P D vwCl (MW A t (m_s' μ s_2)) H → va_D (OA (ML A) s.heap.size) (MW A t (m_s' μ s_2)) → va_S (OA (ML A) s.heap.size) s.heap H locs → W p l e (headSpec (ws_ yX5_lifts cX5_lifts 5 none) rm_X5_lifts).room s m ([.ref (A 0), .int a1, .int a2] : List Value).toArray below meth c H locs 0 0 (MQ below (QM none D (MW A t (m_s' μ res)) (ML A) s.heap.size) ([.ref (A 0), .int a1, .int a2] : List Value).toArray s 0 0 (OA (ML A) s.heap.size)) (F0 m 56 ls [.int o11, .int ((a1 + (67 : Int32)) + y3_2), .ref (A 1)]) := by
          intro ls H locs hl hP hD hS
          have hSz : s.heap.size ≤ H.size := hS.1
          obtain ⟨f12, ef12, h⟩ := obind h
          refine k_iast (ws' := (MW A t (m_s' μ f12))) hx hb hK hP hD hS 1 rfl ef12 rfl dX5_lifts_56 (fun H locs hP hD hS => ?_)
          have hSz : s.heap.size ≤ H.size := hS.1
          obtain ⟨x13, ex13, h⟩ := jlet_some h
          refine lv_iinc (v := x13) (lv' := [(3, .int x13), (0, .ref (A 0)), (1, .int a1), (2, .int a2)]) hx hb dX5_lifts_57 hl (k := 3) rfl (by rw [ex13]; rfl) (by decide) rfl (fun ls hl => ?_)
          refine lv_goto (tgt := 2) hx hb dX5_lifts_60 (by decide) ?_
          exact ih _ _ _ h hK2 ls H locs (lv_sub hl [1, 2, 3, 0] rfl) hP hD hS
        have h := eo11
        clear eo11
        refine lv_icmp_ne (tgt := 41) hx hb dX5_lifts_34 (by decide) (fun hc => ?_) (fun hc => ?_)
        · have h := iteF hc h
          refine lv_iload hx hb dX5_lifts_41 (lv_at hl 0 rfl) ?_
          refine lv_iload_n hx hb dX5_lifts_43 rfl (lv_at hl 3 rfl) ?_
          refine lv_icmp_le (tgt := 54) hx hb dX5_lifts_44 (by decide) (fun hc => ?_) (fun hc => ?_)
          · have h := iteT hc h
            refine lv_iload hx hb dX5_lifts_54 (lv_at hl 0 rfl) ?_
            obtain rfl := Option.some.inj h
            exact hJ56_o11 ls H locs (lv_sub hl [1, 2, 3, 4] rfl) hP hD hS
          · have h := iteF hc h
            refine lv_iload hx hb dX5_lifts_47 (lv_at hl 0 rfl) ?_
            refine lv_iconst (v := (1)) hx hb dX5_lifts_49 (by decide) ?_
            refine lv_isub hx hb dX5_lifts_50 ?_
            refine lv_goto (tgt := 56) hx hb dX5_lifts_51 (by decide) ?_
            obtain rfl := Option.some.inj h
            exact hJ56_o11 ls H locs (lv_sub hl [1, 2, 3, 4] rfl) hP hD hS
        · have h := iteT hc h
          refine lv_iconst (v := (-1)) hx hb dX5_lifts_37 (by decide) ?_
          refine lv_goto (tgt := 56) hx hb dX5_lifts_38 (by decide) ?_
          obtain rfl := Option.some.inj h
          exact hJ56_o11 ls H locs (lv_sub hl [1, 2, 3, 4] rfl) hP hD hS
  refine hL2 _ _ _ _ eo9 (fun ls H locs hl hP hD hS => ?_) ls H locs (lv_sub hl [1, 2, 3, 0] rfl) hP hD hS
  have hSz : s.heap.size ≤ H.size := hS.1
  refine lv_iconst (v := (3)) hx hb dX5_lifts_63 (by decide) ?_
  refine lv_iload_n hx hb dX5_lifts_64 rfl (lv_at hl 2 rfl) ?_
  refine lv_imul hx hb dX5_lifts_65 ?_
  obtain ⟨x14, ex14, h⟩ := jlet_some h
  refine topI ex14 ?_
  refine lv_istore_n (lv' := [(3, .int x14), (0, .ref (A 0)), (1, .int a1), (2, .int a2)]) hx hb dX5_lifts_66 rfl hl (by decide) rfl (fun ls hl => ?_)
  obtain ⟨o23, eo23, h⟩ := obind h
  have hL67 : ∀ (n : Nat) (y3_67 : Int32) (s_67 : Nat → Int32) (o23 : (Nat → Int32)), f_X5_lifts_L67 a1 n y3_67 s_67 = some o23 → (∀ (ls : Array Slot) (H : Heap) (locs : List Loc), lv_has ls 5 [(0, .ref (A 0)), (1, .int a1)] → va_P D vwCl (MW A t (m_s' μ o23)) H → va_D (OA (ML A) s.heap.size) (MW A t (m_s' μ o23)) → va_S (OA (ML A) s.heap.size) s.heap H locs → W p l e (headSpec (ws_ yX5_lifts cX5_lifts 5 none) rm_X5_lifts).room s m ([.ref (A 0), .int a1, .int a2] : List Value).toArray below meth c H locs 0 0 (MQ below (QM none D (MW A t (m_s' μ res)) (ML A) s.heap.size) ([.ref (A 0), .int a1, .int a2] : List Value).toArray s 0 0 (OA (ML A) s.heap.size)) (F0 m 117 ls [])) → ∀ (ls : Array Slot) (H : Heap) (locs : List Loc), lv_has ls 5 [(0, .ref (A 0)), (1, .int a1), (3, .int y3_67)] → va_P D vwCl (MW A t (m_s' μ s_67)) H → va_D (OA (ML A) s.heap.size) (MW A t (m_s' μ s_67)) → va_S (OA (ML A) s.heap.size) s.heap H locs → W p l e (headSpec (ws_ yX5_lifts cX5_lifts 5 none) rm_X5_lifts).room s m ([.ref (A 0), .int a1, .int a2] : List Value).toArray below meth c H locs 0 0 (MQ below (QM none D (MW A t (m_s' μ res)) (ML A) s.heap.size) ([.ref (A 0), .int a1, .int a2] : List Value).toArray s 0 0 (OA (ML A) s.heap.size)) (F0 m 67 ls []) := by
    intro n
    induction n with
    | zero => intro y3_67 s_67 o23 h; exact absurd h (fun z => by cases z)
    | succ n ih =>
      intro y3_67 s_67 o23 h hK67 ls H locs hl hP hD hS
      replace h : f_X5_lifts_L67_b a1 (f_X5_lifts_L67 a1 n) y3_67 s_67 = some o23 := h
      unfold f_X5_lifts_L67_b at h
      have hSz : s.heap.size ≤ H.size := hS.1
      refine lv_iload_n hx hb dX5_lifts_67 rfl (lv_at hl 2 rfl) ?_
      refine lv_iconst (v := (3)) hx hb dX5_lifts_68 (by decide) ?_
      refine lv_iadd hx hb dX5_lifts_69 ?_
      refine lv_iconst (v := (3)) hx hb dX5_lifts_70 (by decide) ?_
      refine lv_aload_n hx hb dX5_lifts_71 rfl (lv_at hl 0 rfl) ?_
      refine va_get hx hb hts inX5 hown hK hP 0 rfl rfl 0 (by decide) (hts _ qw967) (fun _ h9 => h9) rfl dX5_lifts_72 ?_
      refine lv_iload_n hx hb dX5_lifts_75 rfl (lv_at hl 1 rfl) ?_
      refine lv_sipush (v := (131)) hx hb dX5_lifts_76 (by decide) ?_
      refine lv_iadd hx hb dX5_lifts_79 ?_
      obtain ⟨v24, ev24, h⟩ := obind h
      refine k_iald hx hb hK hP 1 rfl ev24 dX5_lifts_80 ?_
      refine lv_imul hx hb dX5_lifts_81 ?_
      refine lv_icmp_ge (tgt := 117) hx hb dX5_lifts_82 (by decide) (fun hc => ?_) (fun hc => ?_)
      · have h := iteT hc h
        obtain rfl := Option.some.inj h
        exact hK67 ls H locs (lv_sub hl [0, 1] rfl) hP hD hS
      · have h := iteF hc h
        refine lv_aload_n hx hb dX5_lifts_85 rfl (lv_at hl 0 rfl) ?_
        refine va_get hx hb hts inX5 hown hK hP 0 rfl rfl 0 (by decide) (hts _ qw967) (fun _ h9 => h9) rfl dX5_lifts_86 ?_
        refine lv_iload_n hx hb dX5_lifts_89 rfl (lv_at hl 1 rfl) ?_
        refine lv_sipush (v := (132)) hx hb dX5_lifts_90 (by decide) ?_
        refine lv_iadd hx hb dX5_lifts_93 ?_
        refine lv_iload_n hx hb dX5_lifts_94 rfl (lv_at hl 2 rfl) ?_
        refine lv_iadd hx hb dX5_lifts_95 ?_
        refine lv_aload_n hx hb dX5_lifts_96 rfl (lv_at hl 0 rfl) ?_
        refine va_get hx hb hts inX5 hown hK hP 0 rfl rfl 0 (by decide) (hts _ qw967) (fun _ h9 => h9) rfl dX5_lifts_97 ?_
        refine lv_iload_n hx hb dX5_lifts_100 rfl (lv_at hl 1 rfl) ?_
        refine lv_sipush (v := (132)) hx hb dX5_lifts_101 (by decide) ?_
        refine lv_iadd hx hb dX5_lifts_104 ?_
        refine lv_iload_n hx hb dX5_lifts_105 rfl (lv_at hl 2 rfl) ?_
        refine lv_iadd hx hb dX5_lifts_106 ?_
        refine lv_iconst (v := (3)) hx hb dX5_lifts_107 (by decide) ?_
        refine lv_iadd hx hb dX5_lifts_108 ?_
        obtain ⟨v25, ev25, h⟩ := obind h
        refine k_iald hx hb hK hP 1 rfl ev25 dX5_lifts_109 ?_
        obtain ⟨f26, ef26, h⟩ := obind h
        refine k_iast (ws' := (MW A t (m_s' μ f26))) hx hb hK hP hD hS 1 rfl ef26 rfl dX5_lifts_110 (fun H locs hP hD hS => ?_)
        have hSz : s.heap.size ≤ H.size := hS.1
        obtain ⟨x27, ex27, h⟩ := jlet_some h
        refine lv_iinc (v := x27) (lv' := [(3, .int x27), (0, .ref (A 0)), (1, .int a1)]) hx hb dX5_lifts_111 hl (k := 2) rfl (by rw [ex27]; rfl) (by decide) rfl (fun ls hl => ?_)
        refine lv_goto (tgt := 67) hx hb dX5_lifts_114 (by decide) ?_
        exact ih _ _ _ h hK67 ls H locs (lv_sub hl [1, 2, 0] rfl) hP hD hS
  refine hL67 _ _ _ _ eo23 (fun ls H locs hl hP hD hS => ?_) ls H locs (lv_sub hl [1, 2, 0] rfl) hP hD hS
  have hSz : s.heap.size ≤ H.size := hS.1
  refine lv_aload_n hx hb dX5_lifts_117 rfl (lv_at hl 0 rfl) ?_
  refine va_get hx hb hts inX5 hown hK hP 0 rfl rfl 0 (by decide) (hts _ qw967) (fun _ h9 => h9) rfl dX5_lifts_118 ?_
  refine lv_iload_n hx hb dX5_lifts_121 rfl (lv_at hl 1 rfl) ?_
  refine lv_sipush (v := (131)) hx hb dX5_lifts_122 (by decide) ?_
  refine lv_iadd hx hb dX5_lifts_125 ?_
  refine lv_dup2_11 hx hb dX5_lifts_126 rfl rfl ?_
  obtain ⟨v28, ev28, h⟩ := obind h
  refine k_iald hx hb hK hP 1 rfl ev28 dX5_lifts_127 ?_
  refine lv_iconst (v := (1)) hx hb dX5_lifts_128 (by decide) ?_
  refine lv_isub hx hb dX5_lifts_129 ?_
  obtain ⟨f29, ef29, h⟩ := obind h
  refine k_iast (ws' := (MW A t (m_s' μ f29))) hx hb hK hP hD hS 1 rfl ef29 rfl dX5_lifts_130 (fun H locs hP hD hS => ?_)
  have hSz : s.heap.size ≤ H.size := hS.1
  obtain rfl := Option.some.inj h
  exact W.vret hx hb hr (fun t ht hW => ⟨rfl, by rw [ht]; exact hP, hD, hS.F ht⟩) hS.2.2 dX5_lifts_131

abbrev rm_X5_lift : Room := { frames := 2, cells := 0, slots := 0, locals := 62 }
theorem ok_X5_lift : okY yX5_lift 2 := ⟨by decide +kernel, by decide +kernel, by decide +kernel⟩
set_option maxHeartbeats 4000000 in
set_option maxRecDepth 100000 in
theorem c_X5_lift (l : Launch) (z0 : Nat) (D : va_G) (t : Nat → ClassId) (A : Nat → Nat) (μ : MS) (a1 : Int32) (a2 : Int32) (res : Int32 × (Nat → Int32) × (Int32) × (Int32)) (sz : Nat) (h : f_X5_lift μ a1 a2 = some res) : Met l yX5_lift (ws_ yX5_lift cX5_lift 5 (some .int)) rm_X5_lift (PM z0 D t [.ref (A 0), .int a1, .int a2] (MW A t μ) (ML A) sz) (QM (some (.int res.1)) D (MW A t (m_thrown' (m_states' (m_s' μ res.2.1) res.2.2.1) res.2.2.2)) (ML A) sz) 0 0 (OA (ML A) sz) := by
  refine Met.ofW (cc := cX5_lift) (maxL := 5) (ret := (some .int)) (by decide) rfl ?_
  intro p e s m args below meth c s₁ Bo hml hv
  obtain ⟨rfl, hC, hsz, hP, hD, hZ⟩ := hv
  have hx := Bo.exec
  have hb := Bo.bytes
  have hr := Bo.returns
  have hts : ∀ w ∈ LA, w.before _ s = true := fun w hw => atoms_spec (ws := ws_ yX5_lift cX5_lift 5 (some .int)) Bo.pre w (List.mem_cons_of_mem _ hw)
  have hown : s.vm.findClass RX5 = some m.cls := findClass_of_methodNamed Bo.named
  have hlocks := Bo.notSynchronized
  have hK := hC.1
  subst hsz
  have hl := lv_entry ([.ref (A 0), .int a1, .int a2]) (n := 5) (Nat.le_of_ble_eq_true rfl)
  rw [lg_entry_eq]
  generalize (lg_sl ([.ref (A 0), .int a1, .int a2]) ++ List.replicate (5 - (lg_sl ([.ref (A 0), .int a1, .int a2])).length) Slot.unset).toArray = ls at hl ⊢
  have hl : lv_has ls 5 [(0, .ref (A 0)), (1, .int a1), (2, .int a2)] := hl
  suffices K9 : ∀ (H : Heap) (locs : List Loc), va_P D vwCl (MW A t μ) H → va_S (OA (ML A) s.heap.size) s.heap H locs → W p l e (headSpec (ws_ yX5_lift cX5_lift 5 (some .int)) rm_X5_lift).room s m ([.ref (A 0), .int a1, .int a2] : List Value).toArray below meth c H locs 0 0 (MQ below (QM (some (.int res.1)) D (MW A t (m_thrown' (m_states' (m_s' μ res.2.1) res.2.2.1) res.2.2.2)) (ML A) s.heap.size) ([.ref (A 0), .int a1, .int a2] : List Value).toArray s 0 0 (OA (ML A) s.heap.size)) (F0 m 0 ls []) from K9 s.heap [] hP va_S.rf
  intro H locs hP hS
  have hSz : s.heap.size ≤ H.size := hS.1
  unfold f_X5_lift at h
  refine lv_aload_n hx hb dX5_lift_0 rfl (lv_at hl 0 rfl) ?_
  refine lv_iload_n hx hb dX5_lift_1 rfl (lv_at hl 1 rfl) ?_
  refine lv_iload_n hx hb dX5_lift_2 rfl (lv_at hl 2 rfl) ?_
  obtain ⟨r1, er1, h⟩ := obind h
  refine call_R (va_runV (As := [.int a1, .int a2]) (rest := []) ⟨hx, hb, hml, hown, hts⟩ (c_X5_isIn l z0 D t A μ a1 a2 _ er1) (kV hts qw1027 qw1029 qs34 qw9 qw1030 ok_X5_isIn ⟨Nat.le_of_ble_eq_true rfl, Nat.le_of_ble_eq_true rfl⟩) ⟨PR.blind, va_recv hK hP (ci := 6) (q0 := 0) rfl rfl, fun U hU hW => ⟨rfl, by rw [hU]; exact (hC.at hS hZ).warm hW, by rw [hU]; exact hP⟩⟩ rfl rfl hl.1 rfl (lv_room (Nat.le_of_ble_eq_true rfl)) dX5_lift_3 ⟨Nat.le_of_ble_eq_true rfl, Nat.le_of_ble_eq_true rfl⟩) ?_
  refine lv_istore_n (lv' := [(3, .int r1), (0, .ref (A 0)), (1, .int a1), (2, .int a2)]) hx hb dX5_lift_6 rfl hl (by decide) rfl (fun ls hl => ?_)
  refine lv_iload_n hx hb dX5_lift_7 rfl (lv_at hl 0 rfl) ?_
  obtain ⟨o3, eo3, h⟩ := obind h
  have hJ29_o3 : ∀ (ls : Array Slot) (H : Heap) (locs : List Loc), lv_has ls 5 [(0, .ref (A 0)), (3, .int r1)] → va_P D vwCl (MW A t μ) H → va_D (OA (ML A) s.heap.size) (MW A t μ) → va_S (OA (ML A) s.heap.size) s.heap H locs → W p l e (headSpec (ws_ yX5_lift cX5_lift 5 (some .int)) rm_X5_lift).room s m ([.ref (A 0), .int a1, .int a2] : List Value).toArray below meth c H locs 0 0 (MQ below (QM (some (.int res.1)) D (MW A t (m_thrown' (m_states' (m_s' μ res.2.1) res.2.2.1) res.2.2.2)) (ML A) s.heap.size) ([.ref (A 0), .int a1, .int a2] : List Value).toArray s 0 0 (OA (ML A) s.heap.size)) (F0 m 29 ls [.int o3]) := by
    intro ls H locs hl hP hD hS
    have hSz : s.heap.size ≤ H.size := hS.1
    refine lv_istore (lv' := [(4, .int o3), (0, .ref (A 0)), (3, .int r1)]) hx hb dX5_lift_29 hl (by decide) rfl (fun ls hl => ?_)
    refine lv_aload_n hx hb dX5_lift_31 rfl (lv_at hl 1 rfl) ?_
    refine lv_iload_n hx hb dX5_lift_32 rfl (lv_at hl 2 rfl) ?_
    refine lv_iload hx hb dX5_lift_33 (lv_at hl 0 rfl) ?_
    obtain ⟨o5, eo5, h⟩ := obind h
    have hJ43_o5 : ∀ (ls : Array Slot) (H : Heap) (locs : List Loc), lv_has ls 5 [(0, .ref (A 0)), (4, .int o3)] → va_P D vwCl (MW A t μ) H → va_D (OA (ML A) s.heap.size) (MW A t μ) → va_S (OA (ML A) s.heap.size) s.heap H locs → W p l e (headSpec (ws_ yX5_lift cX5_lift 5 (some .int)) rm_X5_lift).room s m ([.ref (A 0), .int a1, .int a2] : List Value).toArray below meth c H locs 0 0 (MQ below (QM (some (.int res.1)) D (MW A t (m_thrown' (m_states' (m_s' μ res.2.1) res.2.2.1) res.2.2.2)) (ML A) s.heap.size) ([.ref (A 0), .int a1, .int a2] : List Value).toArray s 0 0 (OA (ML A) s.heap.size)) (F0 m 43 ls [.int o5, .int r1, .ref (A 0)]) := by
      intro ls H locs hl hP hD hS
      have hSz : s.heap.size ≤ H.size := hS.1
      obtain ⟨r6, er6, h⟩ := obind h
      refine call_M (va_runV (As := [.int r1, .int o5]) (rest := []) ⟨hx, hb, hml, hown, hts⟩ (c_X5_goes l z0 D t A μ r1 o5 _ H.size er6) (kV hts qw1011 qw1013 qs31 qw9 qw1014 ok_X5_goes ⟨Nat.le_of_ble_eq_true rfl, Nat.le_of_ble_eq_true rfl⟩) ⟨PM.blind, va_recv hK hP (ci := 6) (q0 := 0) rfl rfl, fun U hU hW => ⟨rfl, by rw [hU]; exact (hC.at hS hZ).warm hW, by rw [hU], by rw [hU]; exact hP, ⟨hD.1, fun _ _ h9 => Or.inl (in_map (L := (ML A)) rfl h9)⟩, fun q hq => hZ q (OA.ofD hD rfl hSz q hq)⟩⟩ rfl rfl hl.1 rfl (lv_room (Nat.le_of_ble_eq_true rfl)) dX5_lift_43 ⟨Nat.le_of_ble_eq_true rfl, Nat.le_of_ble_eq_true rfl⟩) hS (OA.ofD hD rfl hSz) (fun H locs hP hD1 hS _ _ => ?_)
      have hP : va_P D vwCl (MW A t (m_thrown' μ r6.2)) H := hP
      have hD : va_D (OA (ML A) s.heap.size) (MW A t (m_thrown' μ r6.2)) := hD1.weaken (fun _ q _ h9 => OA.ofD hD rfl hSz q.1 h9)
      have hSz : s.heap.size ≤ H.size := hS.1
      refine lv_if_ne (tgt := 51) hx hb dX5_lift_46 (by decide) (fun hc => ?_) (fun hc => ?_)
      · have h := iteF hc h
        refine lv_aload_n hx hb dX5_lift_51 rfl (lv_at hl 0 rfl) ?_
        obtain ⟨r7, er7, h⟩ := obind h
        refine call_M (va_runV (As := []) (rest := []) ⟨hx, hb, hml, hown, hts⟩ (c_X5_saves l z0 D t A (m_thrown' μ r6.2) _ H.size er7) (kV hts qw1015 qw1017 qs32 qw9 qw1018 ok_X5_saves ⟨Nat.le_of_ble_eq_true rfl, Nat.le_of_ble_eq_true rfl⟩) ⟨PM.blind, va_recv hK hP (ci := 6) (q0 := 0) rfl rfl, fun U hU hW => ⟨rfl, by rw [hU]; exact (hC.at hS hZ).warm hW, by rw [hU], by rw [hU]; exact hP, ⟨hD.1, fun _ _ h9 => Or.inl (in_map (L := (ML A)) rfl h9)⟩, fun q hq => hZ q (OA.ofD hD rfl hSz q hq)⟩⟩ rfl rfl hl.1 rfl (lv_room (Nat.le_of_ble_eq_true rfl)) dX5_lift_52 ⟨Nat.le_of_ble_eq_true rfl, Nat.le_of_ble_eq_true rfl⟩) hS (OA.ofD hD rfl hSz) (fun H locs hP hD1 hS _ _ => ?_)
        have hP : va_P D vwCl (MW A t (m_thrown' (m_states' (m_s' μ r7.1) r7.2) r6.2)) H := hP
        have hD : va_D (OA (ML A) s.heap.size) (MW A t (m_thrown' (m_states' (m_s' μ r7.1) r7.2) r6.2)) := hD1.weaken (fun _ q _ h9 => OA.ofD hD rfl hSz q.1 h9)
        have hSz : s.heap.size ≤ H.size := hS.1
        refine lv_aload_n hx hb dX5_lift_55 rfl (lv_at hl 0 rfl) ?_
        refine lv_iconst (v := (0)) hx hb dX5_lift_56 (by decide) ?_
        refine lv_iload hx hb dX5_lift_57 (lv_at hl 1 rfl) ?_
        obtain ⟨r8, er8, h⟩ := obind h
        refine call_M (va_runV (As := [.int (0 : Int32), .int o3]) (rest := []) ⟨hx, hb, hml, hown, hts⟩ (c_X5_lifts l z0 D t A (m_thrown' (m_states' (m_s' μ r7.1) r7.2) r6.2) (0 : Int32) o3 _ H.size er8) (kV hts qw1058 qw1060 qs38 qw9 qw1061 ok_X5_lifts ⟨Nat.le_of_ble_eq_true rfl, Nat.le_of_ble_eq_true rfl⟩) ⟨PM.blind, va_recv hK hP (ci := 6) (q0 := 0) rfl rfl, fun U hU hW => ⟨rfl, by rw [hU]; exact (hC.at hS hZ).warm hW, by rw [hU], by rw [hU]; exact hP, ⟨hD.1, fun _ _ h9 => Or.inl (in_map (L := (ML A)) rfl h9)⟩, fun q hq => hZ q (OA.ofD hD rfl hSz q hq)⟩⟩ rfl rfl hl.1 rfl (lv_room (Nat.le_of_ble_eq_true rfl)) dX5_lift_59 ⟨Nat.le_of_ble_eq_true rfl, Nat.le_of_ble_eq_true rfl⟩) hS (OA.ofD hD rfl hSz) (fun H locs hP hD1 hS _ _ => ?_)
        have hP : va_P D vwCl (MW A t (m_thrown' (m_states' (m_s' μ r8) r7.2) r6.2)) H := hP
        have hD : va_D (OA (ML A) s.heap.size) (MW A t (m_thrown' (m_states' (m_s' μ r8) r7.2) r6.2)) := hD1.weaken (fun _ q _ h9 => OA.ofD hD rfl hSz q.1 h9)
        have hSz : s.heap.size ≤ H.size := hS.1
        refine lv_iload hx hb dX5_lift_62 (lv_at hl 1 rfl) ?_
        obtain rfl := Option.some.inj h
        exact W.iret hx hb hr (fun t ht hW => ⟨rfl, by rw [ht]; exact hP, hD, hS.F ht⟩) hS.2.2 dX5_lift_64
      · have h := iteT hc h
        refine lv_iconst (v := (0)) hx hb dX5_lift_49 (by decide) ?_
        obtain rfl := Option.some.inj h
        exact W.iret hx hb hr (fun t ht hW => ⟨rfl, by rw [ht]; exact hP, hD, hS.F ht⟩) hS.2.2 dX5_lift_50
    have h := eo5
    clear eo5
    refine lv_if_lt (tgt := 42) hx hb dX5_lift_35 (by decide) (fun hc => ?_) (fun hc => ?_)
    · have h := iteT hc h
      refine lv_iconst (v := (0)) hx hb dX5_lift_42 (by decide) ?_
      obtain rfl := Option.some.inj h
      exact hJ43_o5 ls H locs (lv_sub hl [1, 0] rfl) hP hD hS
    · have h := iteF hc h
      refine lv_iconst (v := (1)) hx hb dX5_lift_38 (by decide) ?_
      refine lv_goto (tgt := 43) hx hb dX5_lift_39 (by decide) ?_
      obtain rfl := Option.some.inj h
      exact hJ43_o5 ls H locs (lv_sub hl [1, 0] rfl) hP hD hS
  have h := eo3
  clear eo3
  refine lv_if_eq (tgt := 28) hx hb dX5_lift_8 (by decide) (fun hc => ?_) (fun hc => ?_)
  · have h := iteT hc h
    refine lv_iconst (v := (-1)) hx hb dX5_lift_28 (by decide) ?_
    obtain rfl := Option.some.inj h
    exact hJ29_o3 ls H locs (lv_sub hl [1, 0] rfl) hP hD hS
  · have h := iteF hc h
    refine lv_aload_n hx hb dX5_lift_11 rfl (lv_at hl 1 rfl) ?_
    refine va_get hx hb hts inX5 hown hK hP 0 rfl rfl 0 (by decide) (hts _ qw967) (fun _ h9 => h9) rfl dX5_lift_12 ?_
    refine lv_bipush (v := (67)) hx hb dX5_lift_15 (by decide) ?_
    refine lv_bipush (v := (8)) hx hb dX5_lift_17 (by decide) ?_
    refine lv_iload_n hx hb dX5_lift_19 rfl (lv_at hl 3 rfl) ?_
    refine lv_imul hx hb dX5_lift_20 ?_
    refine lv_iadd hx hb dX5_lift_21 ?_
    refine lv_iload_n hx hb dX5_lift_22 rfl (lv_at hl 2 rfl) ?_
    refine lv_iadd hx hb dX5_lift_23 ?_
    obtain ⟨v4, ev4, h⟩ := obind h
    refine k_iald hx hb hK hP 1 rfl ev4 dX5_lift_24 ?_
    refine lv_goto (tgt := 29) hx hb dX5_lift_25 (by decide) ?_
    obtain rfl := Option.some.inj h
    exact hJ29_o3 ls H locs (lv_sub hl [1, 0] rfl) hP hD hS

abbrev rm_X5_isBlock : Room := { frames := 1, cells := 0, slots := 0, locals := 40 }
theorem ok_X5_isBlock : okY yX5_isBlock 3 := ⟨by decide +kernel, by decide +kernel, by decide +kernel⟩
set_option maxHeartbeats 4000000 in
set_option maxRecDepth 100000 in
theorem c_X5_isBlock (l : Launch) (z0 : Nat) (D : va_G) (t : Nat → ClassId) (A : Nat → Nat) (μ : MS) (a1 : Int32) (a2 : Int32) (a3 : Int32) (res : Int32) (h : f_X5_isBlock μ a1 a2 a3 = some res) : Met l yX5_isBlock (ws_ yX5_isBlock cX5_isBlock 4 (some .boolean)) rm_X5_isBlock (PR z0 D t [.ref (A 0), .int a1, .int a2, .int a3] (MW A t μ)) (QR (some (.int res))) 0 0 FN := by
  refine Met.ofW (cc := cX5_isBlock) (maxL := 4) (ret := (some .boolean)) (by decide) rfl ?_
  intro p e s m args below meth c s₁ Bo hml hv
  obtain ⟨rfl, hC, hP⟩ := hv
  have hx := Bo.exec
  have hb := Bo.bytes
  have hr := Bo.returns
  have hts : ∀ w ∈ LA, w.before _ s = true := fun w hw => atoms_spec (ws := ws_ yX5_isBlock cX5_isBlock 4 (some .boolean)) Bo.pre w (List.mem_cons_of_mem _ hw)
  have hown : s.vm.findClass RX5 = some m.cls := findClass_of_methodNamed Bo.named
  have hlocks := Bo.notSynchronized
  have hK := hC.1
  have hl := lv_entry ([.ref (A 0), .int a1, .int a2, .int a3]) (n := 4) (Nat.le_of_ble_eq_true rfl)
  rw [lg_entry_eq]
  generalize (lg_sl ([.ref (A 0), .int a1, .int a2, .int a3]) ++ List.replicate (4 - (lg_sl ([.ref (A 0), .int a1, .int a2, .int a3])).length) Slot.unset).toArray = ls at hl ⊢
  have hl : lv_has ls 4 [(0, .ref (A 0)), (1, .int a1), (2, .int a2), (3, .int a3)] := hl
  unfold f_X5_isBlock at h
  refine lv_iload_n hx hb dX5_isBlock_0 rfl (lv_at hl 1 rfl) ?_
  refine lv_iconst (v := (0)) hx hb dX5_isBlock_1 (by decide) ?_
  refine lv_aload_n hx hb dX5_isBlock_2 rfl (lv_at hl 0 rfl) ?_
  refine va_get hx hb hts inX5 hown hK hP 0 rfl rfl 0 (by decide) (hts _ qw967) (fun _ h9 => h9) rfl dX5_isBlock_3 ?_
  refine lv_iconst (v := (0)) hx hb dX5_isBlock_6 (by decide) ?_
  obtain ⟨v1, ev1, h⟩ := obind h
  refine k_iald hx hb hK hP 1 rfl ev1 dX5_isBlock_7 ?_
  refine lv_iload_n hx hb dX5_isBlock_8 rfl (lv_at hl 3 rfl) ?_
  obtain ⟨o2, eo2, h⟩ := obind h
  have hJ17_o2 : ∀ ls : Array Slot, lv_has ls 4 [(0, .ref (A 0)), (2, .int a2), (3, .int a3)] → W p l e (headSpec (ws_ yX5_isBlock cX5_isBlock 4 (some .boolean)) rm_X5_isBlock).room s m ([.ref (A 0), .int a1, .int a2, .int a3] : List Value).toArray below meth c s.heap [] 0 0 (MQ below (QR (some (.int res))) ([.ref (A 0), .int a1, .int a2, .int a3] : List Value).toArray s 0 0 FN) (F0 m 17 ls [.int o2, .int v1, .int (0 : Int32), .int a1]) := by
    intro ls hl
    refine lv_isub hx hb dX5_isBlock_17 ?_
    obtain ⟨r3, er3, h⟩ := obind h
    refine call_R (va_runS (As := [.int a1, .int (0 : Int32), .int (v1 - o2)]) (rest := []) ⟨hx, hb, hml, hown, hts⟩ (c_X5_in l z0 D t a1 (0 : Int32) (v1 - o2) _ er3) (kS hts qw1008 qw1009 qw9 qw1010 ok_X5_in ⟨Nat.le_of_ble_eq_true rfl, Nat.le_of_ble_eq_true rfl⟩) ⟨PR.blind, fun U hU hW => ⟨rfl, by rw [hU]; exact hC.warm hW, by rw [hU]; exact va_P_nil⟩⟩ rfl rfl hl.1 rfl (lv_room (Nat.le_of_ble_eq_true rfl)) dX5_isBlock_18 ⟨Nat.le_of_ble_eq_true rfl, Nat.le_of_ble_eq_true rfl⟩) ?_
    refine lv_if_eq (tgt := 52) hx hb dX5_isBlock_21 (by decide) (fun hc => ?_) (fun hc => ?_)
    · have h := iteT hc h
      refine lv_iconst (v := (0)) hx hb dX5_isBlock_52 (by decide) ?_
      obtain rfl := Option.some.inj h
      exact W.zret hx hb hr rfl (fun t ht hW => ⟨rfl, ht⟩) (fun q hq => absurd hq List.not_mem_nil) dX5_isBlock_53
    · have h := iteF hc h
      refine lv_iload_n hx hb dX5_isBlock_24 rfl (lv_at hl 1 rfl) ?_
      refine lv_iconst (v := (0)) hx hb dX5_isBlock_25 (by decide) ?_
      refine lv_aload_n hx hb dX5_isBlock_26 rfl (lv_at hl 0 rfl) ?_
      refine va_get hx hb hts inX5 hown hK hP 0 rfl rfl 0 (by decide) (hts _ qw967) (fun _ h9 => h9) rfl dX5_isBlock_27 ?_
      refine lv_iconst (v := (1)) hx hb dX5_isBlock_30 (by decide) ?_
      obtain ⟨v4, ev4, h⟩ := obind h
      refine k_iald hx hb hK hP 1 rfl ev4 dX5_isBlock_31 ?_
      refine lv_iload_n hx hb dX5_isBlock_32 rfl (lv_at hl 2 rfl) ?_
      obtain ⟨o5, eo5, h⟩ := obind h
      have hJ41_o5 : ∀ ls : Array Slot, lv_has ls 4 [] → W p l e (headSpec (ws_ yX5_isBlock cX5_isBlock 4 (some .boolean)) rm_X5_isBlock).room s m ([.ref (A 0), .int a1, .int a2, .int a3] : List Value).toArray below meth c s.heap [] 0 0 (MQ below (QR (some (.int res))) ([.ref (A 0), .int a1, .int a2, .int a3] : List Value).toArray s 0 0 FN) (F0 m 41 ls [.int o5, .int v4, .int (0 : Int32), .int a2]) := by
        intro ls hl
        refine lv_isub hx hb dX5_isBlock_41 ?_
        obtain ⟨r6, er6, h⟩ := obind h
        refine call_R (va_runS (As := [.int a2, .int (0 : Int32), .int (v4 - o5)]) (rest := []) ⟨hx, hb, hml, hown, hts⟩ (c_X5_in l z0 D t a2 (0 : Int32) (v4 - o5) _ er6) (kS hts qw1008 qw1009 qw9 qw1010 ok_X5_in ⟨Nat.le_of_ble_eq_true rfl, Nat.le_of_ble_eq_true rfl⟩) ⟨PR.blind, fun U hU hW => ⟨rfl, by rw [hU]; exact hC.warm hW, by rw [hU]; exact va_P_nil⟩⟩ rfl rfl hl.1 rfl (lv_room (Nat.le_of_ble_eq_true rfl)) dX5_isBlock_42 ⟨Nat.le_of_ble_eq_true rfl, Nat.le_of_ble_eq_true rfl⟩) ?_
        refine lv_if_eq (tgt := 52) hx hb dX5_isBlock_45 (by decide) (fun hc => ?_) (fun hc => ?_)
        · have h := iteT hc h
          refine lv_iconst (v := (0)) hx hb dX5_isBlock_52 (by decide) ?_
          obtain rfl := Option.some.inj h
          exact W.zret hx hb hr rfl (fun t ht hW => ⟨rfl, ht⟩) (fun q hq => absurd hq List.not_mem_nil) dX5_isBlock_53
        · have h := iteF hc h
          refine lv_iconst (v := (1)) hx hb dX5_isBlock_48 (by decide) ?_
          refine lv_goto (tgt := 53) hx hb dX5_isBlock_49 (by decide) ?_
          obtain rfl := Option.some.inj h
          exact W.zret hx hb hr rfl (fun t ht hW => ⟨rfl, ht⟩) (fun q hq => absurd hq List.not_mem_nil) dX5_isBlock_53
      have h := eo5
      clear eo5
      refine lv_if_eq (tgt := 40) hx hb dX5_isBlock_33 (by decide) (fun hc => ?_) (fun hc => ?_)
      · have h := iteT hc h
        refine lv_iconst (v := (2)) hx hb dX5_isBlock_40 (by decide) ?_
        obtain rfl := Option.some.inj h
        exact hJ41_o5 ls (lv_sub hl [] rfl)
      · have h := iteF hc h
        refine lv_iconst (v := (3)) hx hb dX5_isBlock_36 (by decide) ?_
        refine lv_goto (tgt := 41) hx hb dX5_isBlock_37 (by decide) ?_
        obtain rfl := Option.some.inj h
        exact hJ41_o5 ls (lv_sub hl [] rfl)
  have h := eo2
  clear eo2
  refine lv_if_eq (tgt := 16) hx hb dX5_isBlock_9 (by decide) (fun hc => ?_) (fun hc => ?_)
  · have h := iteT hc h
    refine lv_iconst (v := (3)) hx hb dX5_isBlock_16 (by decide) ?_
    obtain rfl := Option.some.inj h
    exact hJ17_o2 ls (lv_sub hl [0, 2, 3] rfl)
  · have h := iteF hc h
    refine lv_iconst (v := (2)) hx hb dX5_isBlock_12 (by decide) ?_
    refine lv_goto (tgt := 17) hx hb dX5_isBlock_13 (by decide) ?_
    obtain rfl := Option.some.inj h
    exact hJ17_o2 ls (lv_sub hl [0, 2, 3] rfl)

abbrev rm_X5_turnOf : Room := { frames := 0, cells := 0, slots := 0, locals := 0 }
theorem ok_X5_turnOf : okY yX5_turnOf 3 := ⟨by decide +kernel, by decide +kernel, by decide +kernel⟩
set_option maxHeartbeats 4000000 in
set_option maxRecDepth 100000 in
theorem c_X5_turnOf (l : Launch) (z0 : Nat) (D : va_G) (t : Nat → ClassId) (A : Nat → Nat) (μ : MS) (a1 : Int32) (a2 : Int32) (a3 : Int32) (res : Int32) (h : f_X5_turnOf μ a1 a2 a3 = some res) : Met l yX5_turnOf (ws_ yX5_turnOf cX5_turnOf 11 (some .int)) rm_X5_turnOf (PR z0 D t [.ref (A 0), .int a1, .int a2, .int a3] (MW A t μ)) (QR (some (.int res))) 0 0 FN := by
  refine Met.ofW (cc := cX5_turnOf) (maxL := 11) (ret := (some .int)) (by decide) rfl ?_
  intro p e s m args below meth c s₁ Bo hml hv
  obtain ⟨rfl, hC, hP⟩ := hv
  have hx := Bo.exec
  have hb := Bo.bytes
  have hr := Bo.returns
  have hts : ∀ w ∈ LA, w.before _ s = true := fun w hw => atoms_spec (ws := ws_ yX5_turnOf cX5_turnOf 11 (some .int)) Bo.pre w (List.mem_cons_of_mem _ hw)
  have hown : s.vm.findClass RX5 = some m.cls := findClass_of_methodNamed Bo.named
  have hlocks := Bo.notSynchronized
  have hK := hC.1
  have hl := lv_entry ([.ref (A 0), .int a1, .int a2, .int a3]) (n := 11) (Nat.le_of_ble_eq_true rfl)
  rw [lg_entry_eq]
  generalize (lg_sl ([.ref (A 0), .int a1, .int a2, .int a3]) ++ List.replicate (11 - (lg_sl ([.ref (A 0), .int a1, .int a2, .int a3])).length) Slot.unset).toArray = ls at hl ⊢
  have hl : lv_has ls 11 [(0, .ref (A 0)), (1, .int a1), (2, .int a2), (3, .int a3)] := hl
  unfold f_X5_turnOf at h
  refine lv_aload_n hx hb dX5_turnOf_0 rfl (lv_at hl 0 rfl) ?_
  refine va_get hx hb hts inX5 hown hK hP 0 rfl rfl 0 (by decide) (hts _ qw967) (fun _ h9 => h9) rfl dX5_turnOf_1 ?_
  refine lv_bipush (v := (67)) hx hb dX5_turnOf_4 (by decide) ?_
  refine lv_bipush (v := (8)) hx hb dX5_turnOf_6 (by decide) ?_
  refine lv_iload_n hx hb dX5_turnOf_8 rfl (lv_at hl 2 rfl) ?_
  refine lv_imul hx hb dX5_turnOf_9 ?_
  refine lv_iadd hx hb dX5_turnOf_10 ?_
  refine lv_iload_n hx hb dX5_turnOf_11 rfl (lv_at hl 1 rfl) ?_
  refine lv_iadd hx hb dX5_turnOf_12 ?_
  obtain ⟨v1, ev1, h⟩ := obind h
  refine k_iald hx hb hK hP 1 rfl ev1 dX5_turnOf_13 ?_
  refine lv_istore (lv' := [(4, .int v1), (0, .ref (A 0)), (1, .int a1), (2, .int a2), (3, .int a3)]) hx hb dX5_turnOf_14 hl (by decide) rfl (fun ls hl => ?_)
  refine lv_aload_n hx hb dX5_turnOf_16 rfl (lv_at hl 1 rfl) ?_
  refine va_get hx hb hts inX5 hown hK hP 0 rfl rfl 0 (by decide) (hts _ qw967) (fun _ h9 => h9) rfl dX5_turnOf_17 ?_
  refine lv_bipush (v := (67)) hx hb dX5_turnOf_20 (by decide) ?_
  refine lv_bipush (v := (8)) hx hb dX5_turnOf_22 (by decide) ?_
  refine lv_iload_n hx hb dX5_turnOf_24 rfl (lv_at hl 3 rfl) ?_
  refine lv_iload_n hx hb dX5_turnOf_25 rfl (lv_at hl 4 rfl) ?_
  obtain ⟨o2, eo2, h⟩ := obind h
  have hJ34_o2 : ∀ ls : Array Slot, lv_has ls 11 [(0, .ref (A 0)), (1, .int a1), (2, .int a2), (3, .int a3), (4, .int v1)] → W p l e (headSpec (ws_ yX5_turnOf cX5_turnOf 11 (some .int)) rm_X5_turnOf).room s m ([.ref (A 0), .int a1, .int a2, .int a3] : List Value).toArray below meth c s.heap [] 0 0 (MQ below (QR (some (.int res))) ([.ref (A 0), .int a1, .int a2, .int a3] : List Value).toArray s 0 0 FN) (F0 m 34 ls [.int o2, .int a2, .int (8 : Int32), .int (67 : Int32), .ref (A 1)]) := by
    intro ls hl
    refine lv_iadd hx hb dX5_turnOf_34 ?_
    refine lv_imul hx hb dX5_turnOf_35 ?_
    refine lv_iadd hx hb dX5_turnOf_36 ?_
    refine lv_iload_n hx hb dX5_turnOf_37 rfl (lv_at hl 1 rfl) ?_
    refine lv_iadd hx hb dX5_turnOf_38 ?_
    refine lv_iload_n hx hb dX5_turnOf_39 rfl (lv_at hl 3 rfl) ?_
    obtain ⟨o3, eo3, h⟩ := obind h
    have hJ48_o3 : ∀ ls : Array Slot, lv_has ls 11 [(0, .ref (A 0)), (1, .int a1), (2, .int a2), (3, .int a3), (4, .int v1)] → W p l e (headSpec (ws_ yX5_turnOf cX5_turnOf 11 (some .int)) rm_X5_turnOf).room s m ([.ref (A 0), .int a1, .int a2, .int a3] : List Value).toArray below meth c s.heap [] 0 0 (MQ below (QR (some (.int res))) ([.ref (A 0), .int a1, .int a2, .int a3] : List Value).toArray s 0 0 FN) (F0 m 48 ls [.int o3, .int (((67 : Int32) + ((8 : Int32) * (a2 + o2))) + a1), .ref (A 1)]) := by
      intro ls hl
      refine lv_iadd hx hb dX5_turnOf_48 ?_
      obtain ⟨v4, ev4, h⟩ := obind h
      refine k_iald hx hb hK hP 1 rfl ev4 dX5_turnOf_49 ?_
      refine lv_istore (lv' := [(5, .int v4), (0, .ref (A 0)), (1, .int a1), (2, .int a2), (3, .int a3), (4, .int v1)]) hx hb dX5_turnOf_50 hl (by decide) rfl (fun ls hl => ?_)
      refine lv_iload hx hb dX5_turnOf_52 (lv_at hl 5 rfl) ?_
      refine lv_if_lt (tgt := 69) hx hb dX5_turnOf_54 (by decide) (fun hc => ?_) (fun hc => ?_)
      · have h := iteT hc h
        refine lv_iconst (v := (-1)) hx hb dX5_turnOf_69 (by decide) ?_
        obtain rfl := Option.some.inj h
        exact W.iret hx hb hr (fun t ht hW => ⟨rfl, ht⟩) (fun q hq => absurd hq List.not_mem_nil) dX5_turnOf_70
      · have h := iteF hc h
        refine lv_iload hx hb dX5_turnOf_57 (lv_at hl 0 rfl) ?_
        refine lv_if_lt (tgt := 69) hx hb dX5_turnOf_59 (by decide) (fun hc => ?_) (fun hc => ?_)
        · have h := iteT hc h
          refine lv_iconst (v := (-1)) hx hb dX5_turnOf_69 (by decide) ?_
          obtain rfl := Option.some.inj h
          exact W.iret hx hb hr (fun t ht hW => ⟨rfl, ht⟩) (fun q hq => absurd hq List.not_mem_nil) dX5_turnOf_70
        · have h := iteF hc h
          refine lv_iload hx hb dX5_turnOf_62 (lv_at hl 5 rfl) ?_
          refine lv_iload hx hb dX5_turnOf_64 (lv_at hl 0 rfl) ?_
          refine lv_icmp_ne (tgt := 71) hx hb dX5_turnOf_66 (by decide) (fun hc => ?_) (fun hc => ?_)
          · have h := iteF hc h
            refine lv_aload_n hx hb dX5_turnOf_71 rfl (lv_at hl 1 rfl) ?_
            refine va_get hx hb hts inX5 hown hK hP 0 rfl rfl 0 (by decide) (hts _ qw967) (fun _ h9 => h9) rfl dX5_turnOf_72 ?_
            refine lv_sipush (v := (132)) hx hb dX5_turnOf_75 (by decide) ?_
            refine lv_iconst (v := (3)) hx hb dX5_turnOf_78 (by decide) ?_
            refine lv_iload hx hb dX5_turnOf_79 (lv_at hl 5 rfl) ?_
            refine lv_imul hx hb dX5_turnOf_81 ?_
            refine lv_iadd hx hb dX5_turnOf_82 ?_
            refine lv_iconst (v := (2)) hx hb dX5_turnOf_83 (by decide) ?_
            refine lv_iadd hx hb dX5_turnOf_84 ?_
            obtain ⟨v5, ev5, h⟩ := obind h
            refine k_iald hx hb hK hP 1 rfl ev5 dX5_turnOf_85 ?_
            refine lv_istore (lv' := [(6, .int v5), (5, .int v4), (0, .ref (A 0)), (1, .int a1), (2, .int a2), (3, .int a3), (4, .int v1)]) hx hb dX5_turnOf_86 hl (by decide) rfl (fun ls hl => ?_)
            refine lv_aload_n hx hb dX5_turnOf_88 rfl (lv_at hl 2 rfl) ?_
            refine va_get hx hb hts inX5 hown hK hP 0 rfl rfl 0 (by decide) (hts _ qw967) (fun _ h9 => h9) rfl dX5_turnOf_89 ?_
            refine lv_sipush (v := (132)) hx hb dX5_turnOf_92 (by decide) ?_
            refine lv_iconst (v := (3)) hx hb dX5_turnOf_95 (by decide) ?_
            refine lv_iload hx hb dX5_turnOf_96 (lv_at hl 6 rfl) ?_
            refine lv_imul hx hb dX5_turnOf_98 ?_
            refine lv_iadd hx hb dX5_turnOf_99 ?_
            obtain ⟨v6, ev6, h⟩ := obind h
            refine k_iald hx hb hK hP 1 rfl ev6 dX5_turnOf_100 ?_
            refine lv_iload_n hx hb dX5_turnOf_101 rfl (lv_at hl 3 rfl) ?_
            obtain ⟨o9, eo9, h⟩ := obind h
            have hJ149_o9 : ∀ ls : Array Slot, lv_has ls 11 [(0, .ref (A 0)), (1, .int a1), (2, .int a2), (3, .int a3), (5, .int v4), (6, .int v5)] → W p l e (headSpec (ws_ yX5_turnOf cX5_turnOf 11 (some .int)) rm_X5_turnOf).room s m ([.ref (A 0), .int a1, .int a2, .int a3] : List Value).toArray below meth c s.heap [] 0 0 (MQ below (QR (some (.int res))) ([.ref (A 0), .int a1, .int a2, .int a3] : List Value).toArray s 0 0 FN) (F0 m 149 ls [.int o9]) := by
              intro ls hl
              refine lv_istore (lv' := [(7, .int o9), (0, .ref (A 0)), (1, .int a1), (2, .int a2), (3, .int a3), (5, .int v4), (6, .int v5)]) hx hb dX5_turnOf_149 hl (by decide) rfl (fun ls hl => ?_)
              refine lv_iload_n hx hb dX5_turnOf_151 rfl (lv_at hl 4 rfl) ?_
              obtain ⟨o12, eo12, h⟩ := obind h
              have hJ162_o12 : ∀ ls : Array Slot, lv_has ls 11 [(0, .ref (A 0)), (2, .int a2), (3, .int a3), (5, .int v4), (6, .int v5), (7, .int o9)] → W p l e (headSpec (ws_ yX5_turnOf cX5_turnOf 11 (some .int)) rm_X5_turnOf).room s m ([.ref (A 0), .int a1, .int a2, .int a3] : List Value).toArray below meth c s.heap [] 0 0 (MQ below (QR (some (.int res))) ([.ref (A 0), .int a1, .int a2, .int a3] : List Value).toArray s 0 0 FN) (F0 m 162 ls [.int o12]) := by
                intro ls hl
                refine lv_istore (lv' := [(8, .int o12), (0, .ref (A 0)), (2, .int a2), (3, .int a3), (5, .int v4), (6, .int v5), (7, .int o9)]) hx hb dX5_turnOf_162 hl (by decide) rfl (fun ls hl => ?_)
                refine lv_iload_n hx hb dX5_turnOf_164 rfl (lv_at hl 3 rfl) ?_
                obtain ⟨o13, eo13, h⟩ := obind h
                have hJ175_o13 : ∀ ls : Array Slot, lv_has ls 11 [(0, .ref (A 0)), (3, .int a3), (5, .int v4), (6, .int v5), (7, .int o9), (8, .int o12)] → W p l e (headSpec (ws_ yX5_turnOf cX5_turnOf 11 (some .int)) rm_X5_turnOf).room s m ([.ref (A 0), .int a1, .int a2, .int a3] : List Value).toArray below meth c s.heap [] 0 0 (MQ below (QR (some (.int res))) ([.ref (A 0), .int a1, .int a2, .int a3] : List Value).toArray s 0 0 FN) (F0 m 175 ls [.int o13]) := by
                  intro ls hl
                  refine lv_istore (lv' := [(9, .int o13), (0, .ref (A 0)), (3, .int a3), (5, .int v4), (6, .int v5), (7, .int o9), (8, .int o12)]) hx hb dX5_turnOf_175 hl (by decide) rfl (fun ls hl => ?_)
                  refine lv_iload hx hb dX5_turnOf_177 (lv_at hl 4 rfl) ?_
                  refine lv_iconst (v := (2)) hx hb dX5_turnOf_179 (by decide) ?_
                  obtain ⟨o14, eo14, h⟩ := obind h
                  have hJ196_o14 : ∀ ls : Array Slot, lv_has ls 11 [(0, .ref (A 0)), (5, .int v4), (6, .int v5), (7, .int o9), (8, .int o12), (9, .int o13)] → W p l e (headSpec (ws_ yX5_turnOf cX5_turnOf 11 (some .int)) rm_X5_turnOf).room s m ([.ref (A 0), .int a1, .int a2, .int a3] : List Value).toArray below meth c s.heap [] 0 0 (MQ below (QR (some (.int res))) ([.ref (A 0), .int a1, .int a2, .int a3] : List Value).toArray s 0 0 FN) (F0 m 196 ls [.int o14]) := by
                    intro ls hl
                    refine lv_istore (lv' := [(10, .int o14), (0, .ref (A 0)), (5, .int v4), (6, .int v5), (7, .int o9), (8, .int o12), (9, .int o13)]) hx hb dX5_turnOf_196 hl (by decide) rfl (fun ls hl => ?_)
                    refine lv_iload hx hb dX5_turnOf_198 (lv_at hl 4 rfl) ?_
                    obtain ⟨o18, eo18, h⟩ := obind h
                    have hJ266_o18 : ∀ ls : Array Slot, lv_has ls 11 [(6, .int v5)] → W p l e (headSpec (ws_ yX5_turnOf cX5_turnOf 11 (some .int)) rm_X5_turnOf).room s m ([.ref (A 0), .int a1, .int a2, .int a3] : List Value).toArray below meth c s.heap [] 0 0 (MQ below (QR (some (.int res))) ([.ref (A 0), .int a1, .int a2, .int a3] : List Value).toArray s 0 0 FN) (F0 m 266 ls [.int o18]) := by
                      intro ls hl
                      refine lv_istore (lv' := [(7, .int o18), (6, .int v5)]) hx hb dX5_turnOf_266 hl (by decide) rfl (fun ls hl => ?_)
                      refine lv_iload hx hb dX5_turnOf_268 (lv_at hl 0 rfl) ?_
                      refine lv_if_eq (tgt := 278) hx hb dX5_turnOf_270 (by decide) (fun hc => ?_) (fun hc => ?_)
                      · have h := iteT hc h
                        refine lv_iconst (v := (-1)) hx hb dX5_turnOf_278 (by decide) ?_
                        obtain rfl := Option.some.inj h
                        exact W.iret hx hb hr (fun t ht hW => ⟨rfl, ht⟩) (fun q hq => absurd hq List.not_mem_nil) dX5_turnOf_279
                      · have h := iteF hc h
                        refine lv_iload hx hb dX5_turnOf_273 (lv_at hl 1 rfl) ?_
                        refine lv_goto (tgt := 279) hx hb dX5_turnOf_275 (by decide) ?_
                        obtain rfl := Option.some.inj h
                        exact W.iret hx hb hr (fun t ht hW => ⟨rfl, ht⟩) (fun q hq => absurd hq List.not_mem_nil) dX5_turnOf_279
                    have h := eo18
                    clear eo18
                    refine lv_if_eq (tgt := 265) hx hb dX5_turnOf_200 (by decide) (fun hc => ?_) (fun hc => ?_)
                    · have h := iteT hc h
                      refine lv_iconst (v := (0)) hx hb dX5_turnOf_265 (by decide) ?_
                      obtain rfl := Option.some.inj h
                      exact hJ266_o18 ls (lv_sub hl [3] rfl)
                    · have h := iteF hc h
                      refine lv_aload_n hx hb dX5_turnOf_203 rfl (lv_at hl 1 rfl) ?_
                      refine va_get hx hb hts inX5 hown hK hP 0 rfl rfl 0 (by decide) (hts _ qw967) (fun _ h9 => h9) rfl dX5_turnOf_204 ?_
                      refine lv_sipush (v := (132)) hx hb dX5_turnOf_207 (by decide) ?_
                      refine lv_iconst (v := (3)) hx hb dX5_turnOf_210 (by decide) ?_
                      refine lv_iload hx hb dX5_turnOf_211 (lv_at hl 2 rfl) ?_
                      refine lv_imul hx hb dX5_turnOf_213 ?_
                      refine lv_iadd hx hb dX5_turnOf_214 ?_
                      obtain ⟨v19, ev19, h⟩ := obind h
                      refine k_iald hx hb hK hP 1 rfl ev19 dX5_turnOf_215 ?_
                      refine lv_iload hx hb dX5_turnOf_216 (lv_at hl 5 rfl) ?_
                      refine lv_icmp_ne (tgt := 265) hx hb dX5_turnOf_218 (by decide) (fun hc => ?_) (fun hc => ?_)
                      · have h := iteF hc h
                        refine lv_iconst (v := (0)) hx hb dX5_turnOf_265 (by decide) ?_
                        obtain rfl := Option.some.inj h
                        exact hJ266_o18 ls (lv_sub hl [3] rfl)
                      · have h := iteT hc h
                        refine lv_aload_n hx hb dX5_turnOf_221 rfl (lv_at hl 1 rfl) ?_
                        refine va_get hx hb hts inX5 hown hK hP 0 rfl rfl 0 (by decide) (hts _ qw967) (fun _ h9 => h9) rfl dX5_turnOf_222 ?_
                        refine lv_sipush (v := (132)) hx hb dX5_turnOf_225 (by decide) ?_
                        refine lv_iconst (v := (3)) hx hb dX5_turnOf_228 (by decide) ?_
                        refine lv_iload hx hb dX5_turnOf_229 (lv_at hl 2 rfl) ?_
                        refine lv_imul hx hb dX5_turnOf_231 ?_
                        refine lv_iadd hx hb dX5_turnOf_232 ?_
                        refine lv_iconst (v := (1)) hx hb dX5_turnOf_233 (by decide) ?_
                        refine lv_iadd hx hb dX5_turnOf_234 ?_
                        obtain ⟨v20, ev20, h⟩ := obind h
                        refine k_iald hx hb hK hP 1 rfl ev20 dX5_turnOf_235 ?_
                        refine lv_iload hx hb dX5_turnOf_236 (lv_at hl 6 rfl) ?_
                        refine lv_icmp_ne (tgt := 265) hx hb dX5_turnOf_238 (by decide) (fun hc => ?_) (fun hc => ?_)
                        · have h := iteF hc h
                          refine lv_iconst (v := (0)) hx hb dX5_turnOf_265 (by decide) ?_
                          obtain rfl := Option.some.inj h
                          exact hJ266_o18 ls (lv_sub hl [3] rfl)
                        · have h := iteT hc h
                          refine lv_aload_n hx hb dX5_turnOf_241 rfl (lv_at hl 1 rfl) ?_
                          refine va_get hx hb hts inX5 hown hK hP 0 rfl rfl 0 (by decide) (hts _ qw967) (fun _ h9 => h9) rfl dX5_turnOf_242 ?_
                          refine lv_sipush (v := (132)) hx hb dX5_turnOf_245 (by decide) ?_
                          refine lv_iconst (v := (3)) hx hb dX5_turnOf_248 (by decide) ?_
                          refine lv_iload hx hb dX5_turnOf_249 (lv_at hl 2 rfl) ?_
                          refine lv_imul hx hb dX5_turnOf_251 ?_
                          refine lv_iadd hx hb dX5_turnOf_252 ?_
                          refine lv_iconst (v := (2)) hx hb dX5_turnOf_253 (by decide) ?_
                          refine lv_iadd hx hb dX5_turnOf_254 ?_
                          obtain ⟨v21, ev21, h⟩ := obind h
                          refine k_iald hx hb hK hP 1 rfl ev21 dX5_turnOf_255 ?_
                          refine lv_iload hx hb dX5_turnOf_256 (lv_at hl 0 rfl) ?_
                          refine lv_icmp_ne (tgt := 265) hx hb dX5_turnOf_258 (by decide) (fun hc => ?_) (fun hc => ?_)
                          · have h := iteF hc h
                            refine lv_iconst (v := (0)) hx hb dX5_turnOf_265 (by decide) ?_
                            obtain rfl := Option.some.inj h
                            exact hJ266_o18 ls (lv_sub hl [3] rfl)
                          · have h := iteT hc h
                            refine lv_iconst (v := (1)) hx hb dX5_turnOf_261 (by decide) ?_
                            refine lv_goto (tgt := 266) hx hb dX5_turnOf_262 (by decide) ?_
                            obtain rfl := Option.some.inj h
                            exact hJ266_o18 ls (lv_sub hl [3] rfl)
                  have h := eo14
                  clear eo14
                  refine lv_icmp_ne (tgt := 187) hx hb dX5_turnOf_180 (by decide) (fun hc => ?_) (fun hc => ?_)
                  · have h := iteF hc h
                    refine lv_iload_n hx hb dX5_turnOf_187 rfl (lv_at hl 2 rfl) ?_
                    refine lv_if_eq (tgt := 195) hx hb dX5_turnOf_188 (by decide) (fun hc => ?_) (fun hc => ?_)
                    · have h := iteT hc h
                      refine lv_iconst (v := (3)) hx hb dX5_turnOf_195 (by decide) ?_
                      obtain rfl := Option.some.inj h
                      exact hJ196_o14 ls (lv_sub hl [1, 3, 4, 5, 6, 0] rfl)
                    · have h := iteF hc h
                      refine lv_iconst (v := (1)) hx hb dX5_turnOf_191 (by decide) ?_
                      refine lv_goto (tgt := 196) hx hb dX5_turnOf_192 (by decide) ?_
                      obtain rfl := Option.some.inj h
                      exact hJ196_o14 ls (lv_sub hl [1, 3, 4, 5, 6, 0] rfl)
                  · have h := iteT hc h
                    refine lv_iconst (v := (0)) hx hb dX5_turnOf_183 (by decide) ?_
                    refine lv_goto (tgt := 196) hx hb dX5_turnOf_184 (by decide) ?_
                    obtain rfl := Option.some.inj h
                    exact hJ196_o14 ls (lv_sub hl [1, 3, 4, 5, 6, 0] rfl)
                have h := eo13
                clear eo13
                refine lv_if_eq (tgt := 174) hx hb dX5_turnOf_165 (by decide) (fun hc => ?_) (fun hc => ?_)
                · have h := iteT hc h
                  refine lv_iload_n hx hb dX5_turnOf_174 rfl (lv_at hl 2 rfl) ?_
                  obtain rfl := Option.some.inj h
                  exact hJ175_o13 ls (lv_sub hl [1, 3, 4, 5, 6, 0] rfl)
                · have h := iteF hc h
                  refine lv_iload_n hx hb dX5_turnOf_168 rfl (lv_at hl 2 rfl) ?_
                  refine lv_iconst (v := (1)) hx hb dX5_turnOf_169 (by decide) ?_
                  refine lv_iadd hx hb dX5_turnOf_170 ?_
                  refine lv_goto (tgt := 175) hx hb dX5_turnOf_171 (by decide) ?_
                  obtain rfl := Option.some.inj h
                  exact hJ175_o13 ls (lv_sub hl [1, 3, 4, 5, 6, 0] rfl)
              have h := eo12
              clear eo12
              refine lv_if_eq (tgt := 159) hx hb dX5_turnOf_152 (by decide) (fun hc => ?_) (fun hc => ?_)
              · have h := iteT hc h
                refine lv_iload_n hx hb dX5_turnOf_159 rfl (lv_at hl 2 rfl) ?_
                refine lv_iconst (v := (1)) hx hb dX5_turnOf_160 (by decide) ?_
                refine lv_iadd hx hb dX5_turnOf_161 ?_
                obtain rfl := Option.some.inj h
                exact hJ162_o12 ls (lv_sub hl [1, 3, 4, 5, 6, 0] rfl)
              · have h := iteF hc h
                refine lv_iload_n hx hb dX5_turnOf_155 rfl (lv_at hl 2 rfl) ?_
                refine lv_goto (tgt := 162) hx hb dX5_turnOf_156 (by decide) ?_
                obtain rfl := Option.some.inj h
                exact hJ162_o12 ls (lv_sub hl [1, 3, 4, 5, 6, 0] rfl)
            have h := eo9
            clear eo9
            refine lv_icmp_ne (tgt := 148) hx hb dX5_turnOf_102 (by decide) (fun hc => ?_) (fun hc => ?_)
            · have h := iteF hc h
              refine lv_iconst (v := (0)) hx hb dX5_turnOf_148 (by decide) ?_
              obtain rfl := Option.some.inj h
              exact hJ149_o9 ls (lv_sub hl [2, 3, 4, 5, 1, 0] rfl)
            · have h := iteT hc h
              refine lv_aload_n hx hb dX5_turnOf_105 rfl (lv_at hl 2 rfl) ?_
              refine va_get hx hb hts inX5 hown hK hP 0 rfl rfl 0 (by decide) (hts _ qw967) (fun _ h9 => h9) rfl dX5_turnOf_106 ?_
              refine lv_sipush (v := (132)) hx hb dX5_turnOf_109 (by decide) ?_
              refine lv_iconst (v := (3)) hx hb dX5_turnOf_112 (by decide) ?_
              refine lv_iload hx hb dX5_turnOf_113 (lv_at hl 6 rfl) ?_
              refine lv_imul hx hb dX5_turnOf_115 ?_
              refine lv_iadd hx hb dX5_turnOf_116 ?_
              refine lv_iconst (v := (1)) hx hb dX5_turnOf_117 (by decide) ?_
              refine lv_iadd hx hb dX5_turnOf_118 ?_
              obtain ⟨v10, ev10, h⟩ := obind h
              refine k_iald hx hb hK hP 1 rfl ev10 dX5_turnOf_119 ?_
              refine lv_iload_n hx hb dX5_turnOf_120 rfl (lv_at hl 4 rfl) ?_
              refine lv_icmp_ne (tgt := 148) hx hb dX5_turnOf_121 (by decide) (fun hc => ?_) (fun hc => ?_)
              · have h := iteF hc h
                refine lv_iconst (v := (0)) hx hb dX5_turnOf_148 (by decide) ?_
                obtain rfl := Option.some.inj h
                exact hJ149_o9 ls (lv_sub hl [2, 3, 4, 5, 1, 0] rfl)
              · have h := iteT hc h
                refine lv_iload hx hb dX5_turnOf_124 (lv_at hl 0 rfl) ?_
                refine lv_iconst (v := (2)) hx hb dX5_turnOf_126 (by decide) ?_
                refine lv_icmp_eq (tgt := 144) hx hb dX5_turnOf_127 (by decide) (fun hc => ?_) (fun hc => ?_)
                · have h := iteT hc h
                  refine lv_iconst (v := (1)) hx hb dX5_turnOf_144 (by decide) ?_
                  refine lv_goto (tgt := 149) hx hb dX5_turnOf_145 (by decide) ?_
                  obtain rfl := Option.some.inj h
                  exact hJ149_o9 ls (lv_sub hl [2, 3, 4, 5, 1, 0] rfl)
                · have h := iteF hc h
                  refine lv_iload hx hb dX5_turnOf_130 (lv_at hl 0 rfl) ?_
                  refine lv_iload_n hx hb dX5_turnOf_132 rfl (lv_at hl 5 rfl) ?_
                  obtain ⟨o11, eo11, h⟩ := obind h
                  have hJ141_o11 : ∀ ls : Array Slot, lv_has ls 11 [(0, .ref (A 0)), (1, .int a1), (2, .int a2), (3, .int a3), (5, .int v4), (6, .int v5)] → W p l e (headSpec (ws_ yX5_turnOf cX5_turnOf 11 (some .int)) rm_X5_turnOf).room s m ([.ref (A 0), .int a1, .int a2, .int a3] : List Value).toArray below meth c s.heap [] 0 0 (MQ below (QR (some (.int res))) ([.ref (A 0), .int a1, .int a2, .int a3] : List Value).toArray s 0 0 FN) (F0 m 141 ls [.int o11, .int v5]) := by
                    intro ls hl
                    refine lv_icmp_ne (tgt := 148) hx hb dX5_turnOf_141 (by decide) (fun hc => ?_) (fun hc => ?_)
                    · have h := iteF hc h
                      refine lv_iconst (v := (0)) hx hb dX5_turnOf_148 (by decide) ?_
                      obtain rfl := Option.some.inj h
                      exact hJ149_o9 ls (lv_sub hl [0, 1, 2, 3, 4, 5] rfl)
                    · have h := iteT hc h
                      refine lv_iconst (v := (1)) hx hb dX5_turnOf_144 (by decide) ?_
                      refine lv_goto (tgt := 149) hx hb dX5_turnOf_145 (by decide) ?_
                      obtain rfl := Option.some.inj h
                      exact hJ149_o9 ls (lv_sub hl [0, 1, 2, 3, 4, 5] rfl)
                  have h := eo11
                  clear eo11
                  refine lv_if_eq (tgt := 140) hx hb dX5_turnOf_133 (by decide) (fun hc => ?_) (fun hc => ?_)
                  · have h := iteT hc h
                    refine lv_iconst (v := (1)) hx hb dX5_turnOf_140 (by decide) ?_
                    obtain rfl := Option.some.inj h
                    exact hJ141_o11 ls (lv_sub hl [2, 3, 4, 5, 1, 0] rfl)
                  · have h := iteF hc h
                    refine lv_iconst (v := (3)) hx hb dX5_turnOf_136 (by decide) ?_
                    refine lv_goto (tgt := 141) hx hb dX5_turnOf_137 (by decide) ?_
                    obtain rfl := Option.some.inj h
                    exact hJ141_o11 ls (lv_sub hl [2, 3, 4, 5, 1, 0] rfl)
          · have h := iteT hc h
            refine lv_iconst (v := (-1)) hx hb dX5_turnOf_69 (by decide) ?_
            obtain rfl := Option.some.inj h
            exact W.iret hx hb hr (fun t ht hW => ⟨rfl, ht⟩) (fun q hq => absurd hq List.not_mem_nil) dX5_turnOf_70
    have h := eo3
    clear eo3
    refine lv_if_eq (tgt := 47) hx hb dX5_turnOf_40 (by decide) (fun hc => ?_) (fun hc => ?_)
    · have h := iteT hc h
      refine lv_iconst (v := (2)) hx hb dX5_turnOf_47 (by decide) ?_
      obtain rfl := Option.some.inj h
      exact hJ48_o3 ls (lv_sub hl [0, 1, 2, 3, 4] rfl)
    · have h := iteF hc h
      refine lv_iconst (v := (1)) hx hb dX5_turnOf_43 (by decide) ?_
      refine lv_goto (tgt := 48) hx hb dX5_turnOf_44 (by decide) ?_
      obtain rfl := Option.some.inj h
      exact hJ48_o3 ls (lv_sub hl [0, 1, 2, 3, 4] rfl)
  have h := eo2
  clear eo2
  refine lv_if_eq (tgt := 33) hx hb dX5_turnOf_26 (by decide) (fun hc => ?_) (fun hc => ?_)
  · have h := iteT hc h
    refine lv_iconst (v := (1)) hx hb dX5_turnOf_33 (by decide) ?_
    obtain rfl := Option.some.inj h
    exact hJ34_o2 ls (lv_sub hl [1, 2, 3, 4, 0] rfl)
  · have h := iteF hc h
    refine lv_iconst (v := (2)) hx hb dX5_turnOf_29 (by decide) ?_
    refine lv_goto (tgt := 34) hx hb dX5_turnOf_30 (by decide) ?_
    obtain rfl := Option.some.inj h
    exact hJ34_o2 ls (lv_sub hl [1, 2, 3, 4, 0] rfl)

abbrev rm_X5_flip : Room := { frames := 2, cells := 0, slots := 0, locals := 66 }
theorem ok_X5_flip : okY yX5_flip 3 := ⟨by decide +kernel, by decide +kernel, by decide +kernel⟩
set_option maxHeartbeats 4000000 in
set_option maxRecDepth 100000 in
theorem c_X5_flip (l : Launch) (z0 : Nat) (D : va_G) (t : Nat → ClassId) (A : Nat → Nat) (μ : MS) (a1 : Int32) (a2 : Int32) (a3 : Int32) (res : Int32 × (Nat → Int32) × (Int32) × (Int32)) (sz : Nat) (h : f_X5_flip μ a1 a2 a3 = some res) : Met l yX5_flip (ws_ yX5_flip cX5_flip 7 (some .int)) rm_X5_flip (PM z0 D t [.ref (A 0), .int a1, .int a2, .int a3] (MW A t μ) (ML A) sz) (QM (some (.int res.1)) D (MW A t (m_thrown' (m_states' (m_s' μ res.2.1) res.2.2.1) res.2.2.2)) (ML A) sz) 0 0 (OA (ML A) sz) := by
  refine Met.ofW (cc := cX5_flip) (maxL := 7) (ret := (some .int)) (by decide) rfl ?_
  intro p e s m args below meth c s₁ Bo hml hv
  obtain ⟨rfl, hC, hsz, hP, hD, hZ⟩ := hv
  have hx := Bo.exec
  have hb := Bo.bytes
  have hr := Bo.returns
  have hts : ∀ w ∈ LA, w.before _ s = true := fun w hw => atoms_spec (ws := ws_ yX5_flip cX5_flip 7 (some .int)) Bo.pre w (List.mem_cons_of_mem _ hw)
  have hown : s.vm.findClass RX5 = some m.cls := findClass_of_methodNamed Bo.named
  have hlocks := Bo.notSynchronized
  have hK := hC.1
  subst hsz
  have hl := lv_entry ([.ref (A 0), .int a1, .int a2, .int a3]) (n := 7) (Nat.le_of_ble_eq_true rfl)
  rw [lg_entry_eq]
  generalize (lg_sl ([.ref (A 0), .int a1, .int a2, .int a3]) ++ List.replicate (7 - (lg_sl ([.ref (A 0), .int a1, .int a2, .int a3])).length) Slot.unset).toArray = ls at hl ⊢
  have hl : lv_has ls 7 [(0, .ref (A 0)), (1, .int a1), (2, .int a2), (3, .int a3)] := hl
  suffices K9 : ∀ (H : Heap) (locs : List Loc), va_P D vwCl (MW A t μ) H → va_S (OA (ML A) s.heap.size) s.heap H locs → W p l e (headSpec (ws_ yX5_flip cX5_flip 7 (some .int)) rm_X5_flip).room s m ([.ref (A 0), .int a1, .int a2, .int a3] : List Value).toArray below meth c H locs 0 0 (MQ below (QM (some (.int res.1)) D (MW A t (m_thrown' (m_states' (m_s' μ res.2.1) res.2.2.1) res.2.2.2)) (ML A) s.heap.size) ([.ref (A 0), .int a1, .int a2, .int a3] : List Value).toArray s 0 0 (OA (ML A) s.heap.size)) (F0 m 0 ls []) from K9 s.heap [] hP va_S.rf
  intro H locs hP hS
  have hSz : s.heap.size ≤ H.size := hS.1
  unfold f_X5_flip at h
  refine lv_aload_n hx hb dX5_flip_0 rfl (lv_at hl 0 rfl) ?_
  refine lv_iload_n hx hb dX5_flip_1 rfl (lv_at hl 1 rfl) ?_
  refine lv_iload_n hx hb dX5_flip_2 rfl (lv_at hl 2 rfl) ?_
  refine lv_iload_n hx hb dX5_flip_3 rfl (lv_at hl 3 rfl) ?_
  obtain ⟨r1, er1, h⟩ := obind h
  refine call_R (va_runV (As := [.int a1, .int a2, .int a3]) (rest := []) ⟨hx, hb, hml, hown, hts⟩ (c_X5_isBlock l z0 D t A μ a1 a2 a3 _ er1) (kV hts qw1066 qw1068 qs39 qw9 qw1069 ok_X5_isBlock ⟨Nat.le_of_ble_eq_true rfl, Nat.le_of_ble_eq_true rfl⟩) ⟨PR.blind, va_recv hK hP (ci := 6) (q0 := 0) rfl rfl, fun U hU hW => ⟨rfl, by rw [hU]; exact (hC.at hS hZ).warm hW, by rw [hU]; exact hP⟩⟩ rfl rfl hl.1 rfl (lv_room (Nat.le_of_ble_eq_true rfl)) dX5_flip_4 ⟨Nat.le_of_ble_eq_true rfl, Nat.le_of_ble_eq_true rfl⟩) ?_
  refine lv_istore (lv' := [(4, .int r1), (0, .ref (A 0)), (1, .int a1), (2, .int a2), (3, .int a3)]) hx hb dX5_flip_7 hl (by decide) rfl (fun ls hl => ?_)
  refine lv_iload hx hb dX5_flip_9 (lv_at hl 0 rfl) ?_
  obtain ⟨o3, eo3, h⟩ := obind h
  have hJ25_o3 : ∀ (ls : Array Slot) (H : Heap) (locs : List Loc), lv_has ls 7 [(0, .ref (A 0)), (1, .int a1), (2, .int a2), (3, .int a3), (4, .int r1)] → va_P D vwCl (MW A t μ) H → va_D (OA (ML A) s.heap.size) (MW A t μ) → va_S (OA (ML A) s.heap.size) s.heap H locs → W p l e (headSpec (ws_ yX5_flip cX5_flip 7 (some .int)) rm_X5_flip).room s m ([.ref (A 0), .int a1, .int a2, .int a3] : List Value).toArray below meth c H locs 0 0 (MQ below (QM (some (.int res.1)) D (MW A t (m_thrown' (m_states' (m_s' μ res.2.1) res.2.2.1) res.2.2.2)) (ML A) s.heap.size) ([.ref (A 0), .int a1, .int a2, .int a3] : List Value).toArray s 0 0 (OA (ML A) s.heap.size)) (F0 m 25 ls [.int o3]) := by
    intro ls H locs hl hP hD hS
    have hSz : s.heap.size ≤ H.size := hS.1
    refine lv_istore (lv' := [(5, .int o3), (0, .ref (A 0)), (1, .int a1), (2, .int a2), (3, .int a3), (4, .int r1)]) hx hb dX5_flip_25 hl (by decide) rfl (fun ls hl => ?_)
    refine lv_aload_n hx hb dX5_flip_27 rfl (lv_at hl 1 rfl) ?_
    refine lv_iload hx hb dX5_flip_28 (lv_at hl 5 rfl) ?_
    refine lv_iload hx hb dX5_flip_30 (lv_at hl 0 rfl) ?_
    obtain ⟨o5, eo5, h⟩ := obind h
    have hJ40_o5 : ∀ (ls : Array Slot) (H : Heap) (locs : List Loc), lv_has ls 7 [(0, .ref (A 0)), (1, .int a1), (2, .int a2), (3, .int a3), (5, .int o3)] → va_P D vwCl (MW A t μ) H → va_D (OA (ML A) s.heap.size) (MW A t μ) → va_S (OA (ML A) s.heap.size) s.heap H locs → W p l e (headSpec (ws_ yX5_flip cX5_flip 7 (some .int)) rm_X5_flip).room s m ([.ref (A 0), .int a1, .int a2, .int a3] : List Value).toArray below meth c H locs 0 0 (MQ below (QM (some (.int res.1)) D (MW A t (m_thrown' (m_states' (m_s' μ res.2.1) res.2.2.1) res.2.2.2)) (ML A) s.heap.size) ([.ref (A 0), .int a1, .int a2, .int a3] : List Value).toArray s 0 0 (OA (ML A) s.heap.size)) (F0 m 40 ls [.int o5, .int r1, .ref (A 0)]) := by
      intro ls H locs hl hP hD hS
      have hSz : s.heap.size ≤ H.size := hS.1
      obtain ⟨r6, er6, h⟩ := obind h
      refine call_M (va_runV (As := [.int r1, .int o5]) (rest := []) ⟨hx, hb, hml, hown, hts⟩ (c_X5_goes l z0 D t A μ r1 o5 _ H.size er6) (kV hts qw1011 qw1013 qs31 qw9 qw1014 ok_X5_goes ⟨Nat.le_of_ble_eq_true rfl, Nat.le_of_ble_eq_true rfl⟩) ⟨PM.blind, va_recv hK hP (ci := 6) (q0 := 0) rfl rfl, fun U hU hW => ⟨rfl, by rw [hU]; exact (hC.at hS hZ).warm hW, by rw [hU], by rw [hU]; exact hP, ⟨hD.1, fun _ _ h9 => Or.inl (in_map (L := (ML A)) rfl h9)⟩, fun q hq => hZ q (OA.ofD hD rfl hSz q hq)⟩⟩ rfl rfl hl.1 rfl (lv_room (Nat.le_of_ble_eq_true rfl)) dX5_flip_40 ⟨Nat.le_of_ble_eq_true rfl, Nat.le_of_ble_eq_true rfl⟩) hS (OA.ofD hD rfl hSz) (fun H locs hP hD1 hS _ _ => ?_)
      have hP : va_P D vwCl (MW A t (m_thrown' μ r6.2)) H := hP
      have hD : va_D (OA (ML A) s.heap.size) (MW A t (m_thrown' μ r6.2)) := hD1.weaken (fun _ q _ h9 => OA.ofD hD rfl hSz q.1 h9)
      have hSz : s.heap.size ≤ H.size := hS.1
      refine lv_if_ne (tgt := 48) hx hb dX5_flip_43 (by decide) (fun hc => ?_) (fun hc => ?_)
      · have h := iteF hc h
        refine lv_aload_n hx hb dX5_flip_48 rfl (lv_at hl 0 rfl) ?_
        obtain ⟨r7, er7, h⟩ := obind h
        refine call_M (va_runV (As := []) (rest := []) ⟨hx, hb, hml, hown, hts⟩ (c_X5_saves l z0 D t A (m_thrown' μ r6.2) _ H.size er7) (kV hts qw1015 qw1017 qs32 qw9 qw1018 ok_X5_saves ⟨Nat.le_of_ble_eq_true rfl, Nat.le_of_ble_eq_true rfl⟩) ⟨PM.blind, va_recv hK hP (ci := 6) (q0 := 0) rfl rfl, fun U hU hW => ⟨rfl, by rw [hU]; exact (hC.at hS hZ).warm hW, by rw [hU], by rw [hU]; exact hP, ⟨hD.1, fun _ _ h9 => Or.inl (in_map (L := (ML A)) rfl h9)⟩, fun q hq => hZ q (OA.ofD hD rfl hSz q hq)⟩⟩ rfl rfl hl.1 rfl (lv_room (Nat.le_of_ble_eq_true rfl)) dX5_flip_49 ⟨Nat.le_of_ble_eq_true rfl, Nat.le_of_ble_eq_true rfl⟩) hS (OA.ofD hD rfl hSz) (fun H locs hP hD1 hS _ _ => ?_)
        have hP : va_P D vwCl (MW A t (m_thrown' (m_states' (m_s' μ r7.1) r7.2) r6.2)) H := hP
        have hD : va_D (OA (ML A) s.heap.size) (MW A t (m_thrown' (m_states' (m_s' μ r7.1) r7.2) r6.2)) := hD1.weaken (fun _ q _ h9 => OA.ofD hD rfl hSz q.1 h9)
        have hSz : s.heap.size ≤ H.size := hS.1
        refine lv_aload_n hx hb dX5_flip_52 rfl (lv_at hl 0 rfl) ?_
        refine lv_iconst (v := (0)) hx hb dX5_flip_53 (by decide) ?_
        refine lv_aload_n hx hb dX5_flip_54 rfl (lv_at hl 0 rfl) ?_
        refine va_get hx hb hts inX5 hown hK hP 0 rfl rfl 0 (by decide) (hts _ qw967) (fun _ h9 => h9) rfl dX5_flip_55 ?_
        refine lv_bipush (v := (67)) hx hb dX5_flip_58 (by decide) ?_
        refine lv_bipush (v := (8)) hx hb dX5_flip_60 (by decide) ?_
        refine lv_iload_n hx hb dX5_flip_62 rfl (lv_at hl 2 rfl) ?_
        refine lv_imul hx hb dX5_flip_63 ?_
        refine lv_iadd hx hb dX5_flip_64 ?_
        refine lv_iload_n hx hb dX5_flip_65 rfl (lv_at hl 1 rfl) ?_
        refine lv_iadd hx hb dX5_flip_66 ?_
        obtain ⟨v8, ev8, h⟩ := obind h
        refine k_iald hx hb hK hP 1 rfl ev8 dX5_flip_67 ?_
        obtain ⟨r9, er9, h⟩ := obind h
        refine call_M (va_runV (As := [.int (0 : Int32), .int v8]) (rest := []) ⟨hx, hb, hml, hown, hts⟩ (c_X5_lifts l z0 D t A (m_thrown' (m_states' (m_s' μ r7.1) r7.2) r6.2) (0 : Int32) v8 _ H.size er9) (kV hts qw1058 qw1060 qs38 qw9 qw1061 ok_X5_lifts ⟨Nat.le_of_ble_eq_true rfl, Nat.le_of_ble_eq_true rfl⟩) ⟨PM.blind, va_recv hK hP (ci := 6) (q0 := 0) rfl rfl, fun U hU hW => ⟨rfl, by rw [hU]; exact (hC.at hS hZ).warm hW, by rw [hU], by rw [hU]; exact hP, ⟨hD.1, fun _ _ h9 => Or.inl (in_map (L := (ML A)) rfl h9)⟩, fun q hq => hZ q (OA.ofD hD rfl hSz q hq)⟩⟩ rfl rfl hl.1 rfl (lv_room (Nat.le_of_ble_eq_true rfl)) dX5_flip_68 ⟨Nat.le_of_ble_eq_true rfl, Nat.le_of_ble_eq_true rfl⟩) hS (OA.ofD hD rfl hSz) (fun H locs hP hD1 hS _ _ => ?_)
        have hP : va_P D vwCl (MW A t (m_thrown' (m_states' (m_s' μ r9) r7.2) r6.2)) H := hP
        have hD : va_D (OA (ML A) s.heap.size) (MW A t (m_thrown' (m_states' (m_s' μ r9) r7.2) r6.2)) := hD1.weaken (fun _ q _ h9 => OA.ofD hD rfl hSz q.1 h9)
        have hSz : s.heap.size ≤ H.size := hS.1
        refine lv_aload_n hx hb dX5_flip_71 rfl (lv_at hl 0 rfl) ?_
        refine lv_iconst (v := (0)) hx hb dX5_flip_72 (by decide) ?_
        refine lv_aload_n hx hb dX5_flip_73 rfl (lv_at hl 0 rfl) ?_
        refine va_get hx hb hts inX5 hown hK hP 0 rfl rfl 0 (by decide) (hts _ qw967) (fun _ h9 => h9) rfl dX5_flip_74 ?_
        refine lv_bipush (v := (67)) hx hb dX5_flip_77 (by decide) ?_
        refine lv_bipush (v := (8)) hx hb dX5_flip_79 (by decide) ?_
        refine lv_iload_n hx hb dX5_flip_81 rfl (lv_at hl 2 rfl) ?_
        refine lv_iload_n hx hb dX5_flip_82 rfl (lv_at hl 3 rfl) ?_
        obtain ⟨o10, eo10, h⟩ := obind h
        have hJ91_o10 : ∀ (ls : Array Slot) (H : Heap) (locs : List Loc), lv_has ls 7 [(0, .ref (A 0)), (1, .int a1), (2, .int a2), (3, .int a3), (5, .int o3)] → va_P D vwCl (MW A t (m_thrown' (m_states' (m_s' μ r9) r7.2) r6.2)) H → va_D (OA (ML A) s.heap.size) (MW A t (m_thrown' (m_states' (m_s' μ r9) r7.2) r6.2)) → va_S (OA (ML A) s.heap.size) s.heap H locs → W p l e (headSpec (ws_ yX5_flip cX5_flip 7 (some .int)) rm_X5_flip).room s m ([.ref (A 0), .int a1, .int a2, .int a3] : List Value).toArray below meth c H locs 0 0 (MQ below (QM (some (.int res.1)) D (MW A t (m_thrown' (m_states' (m_s' μ res.2.1) res.2.2.1) res.2.2.2)) (ML A) s.heap.size) ([.ref (A 0), .int a1, .int a2, .int a3] : List Value).toArray s 0 0 (OA (ML A) s.heap.size)) (F0 m 91 ls [.int o10, .int a2, .int (8 : Int32), .int (67 : Int32), .ref (A 1), .int (0 : Int32), .ref (A 0)]) := by
          intro ls H locs hl hP hD hS
          have hSz : s.heap.size ≤ H.size := hS.1
          refine lv_iadd hx hb dX5_flip_91 ?_
          refine lv_imul hx hb dX5_flip_92 ?_
          refine lv_iadd hx hb dX5_flip_93 ?_
          refine lv_iload_n hx hb dX5_flip_94 rfl (lv_at hl 1 rfl) ?_
          refine lv_iadd hx hb dX5_flip_95 ?_
          refine lv_iload_n hx hb dX5_flip_96 rfl (lv_at hl 3 rfl) ?_
          obtain ⟨o11, eo11, h⟩ := obind h
          have hJ105_o11 : ∀ (ls : Array Slot) (H : Heap) (locs : List Loc), lv_has ls 7 [(0, .ref (A 0)), (1, .int a1), (2, .int a2), (3, .int a3), (5, .int o3)] → va_P D vwCl (MW A t (m_thrown' (m_states' (m_s' μ r9) r7.2) r6.2)) H → va_D (OA (ML A) s.heap.size) (MW A t (m_thrown' (m_states' (m_s' μ r9) r7.2) r6.2)) → va_S (OA (ML A) s.heap.size) s.heap H locs → W p l e (headSpec (ws_ yX5_flip cX5_flip 7 (some .int)) rm_X5_flip).room s m ([.ref (A 0), .int a1, .int a2, .int a3] : List Value).toArray below meth c H locs 0 0 (MQ below (QM (some (.int res.1)) D (MW A t (m_thrown' (m_states' (m_s' μ res.2.1) res.2.2.1) res.2.2.2)) (ML A) s.heap.size) ([.ref (A 0), .int a1, .int a2, .int a3] : List Value).toArray s 0 0 (OA (ML A) s.heap.size)) (F0 m 105 ls [.int o11, .int (((67 : Int32) + ((8 : Int32) * (a2 + o10))) + a1), .ref (A 1), .int (0 : Int32), .ref (A 0)]) := by
            intro ls H locs hl hP hD hS
            have hSz : s.heap.size ≤ H.size := hS.1
            refine lv_iadd hx hb dX5_flip_105 ?_
            obtain ⟨v12, ev12, h⟩ := obind h
            refine k_iald hx hb hK hP 1 rfl ev12 dX5_flip_106 ?_
            obtain ⟨r13, er13, h⟩ := obind h
            refine call_M (va_runV (As := [.int (0 : Int32), .int v12]) (rest := []) ⟨hx, hb, hml, hown, hts⟩ (c_X5_lifts l z0 D t A (m_thrown' (m_states' (m_s' μ r9) r7.2) r6.2) (0 : Int32) v12 _ H.size er13) (kV hts qw1058 qw1060 qs38 qw9 qw1061 ok_X5_lifts ⟨Nat.le_of_ble_eq_true rfl, Nat.le_of_ble_eq_true rfl⟩) ⟨PM.blind, va_recv hK hP (ci := 6) (q0 := 0) rfl rfl, fun U hU hW => ⟨rfl, by rw [hU]; exact (hC.at hS hZ).warm hW, by rw [hU], by rw [hU]; exact hP, ⟨hD.1, fun _ _ h9 => Or.inl (in_map (L := (ML A)) rfl h9)⟩, fun q hq => hZ q (OA.ofD hD rfl hSz q hq)⟩⟩ rfl rfl hl.1 rfl (lv_room (Nat.le_of_ble_eq_true rfl)) dX5_flip_107 ⟨Nat.le_of_ble_eq_true rfl, Nat.le_of_ble_eq_true rfl⟩) hS (OA.ofD hD rfl hSz) (fun H locs hP hD1 hS _ _ => ?_)
            have hP : va_P D vwCl (MW A t (m_thrown' (m_states' (m_s' μ r13) r7.2) r6.2)) H := hP
            have hD : va_D (OA (ML A) s.heap.size) (MW A t (m_thrown' (m_states' (m_s' μ r13) r7.2) r6.2)) := hD1.weaken (fun _ q _ h9 => OA.ofD hD rfl hSz q.1 h9)
            have hSz : s.heap.size ≤ H.size := hS.1
            refine lv_iload hx hb dX5_flip_110 (lv_at hl 4 rfl) ?_
            refine lv_iconst (v := (2)) hx hb dX5_flip_112 (by decide) ?_
            obtain ⟨o14, eo14, h⟩ := obind h
            have hJ129_o14 : ∀ (ls : Array Slot) (H : Heap) (locs : List Loc), lv_has ls 7 [(0, .ref (A 0)), (1, .int a1), (2, .int a2), (3, .int a3)] → va_P D vwCl (MW A t (m_thrown' (m_states' (m_s' μ r13) r7.2) r6.2)) H → va_D (OA (ML A) s.heap.size) (MW A t (m_thrown' (m_states' (m_s' μ r13) r7.2) r6.2)) → va_S (OA (ML A) s.heap.size) s.heap H locs → W p l e (headSpec (ws_ yX5_flip cX5_flip 7 (some .int)) rm_X5_flip).room s m ([.ref (A 0), .int a1, .int a2, .int a3] : List Value).toArray below meth c H locs 0 0 (MQ below (QM (some (.int res.1)) D (MW A t (m_thrown' (m_states' (m_s' μ res.2.1) res.2.2.1) res.2.2.2)) (ML A) s.heap.size) ([.ref (A 0), .int a1, .int a2, .int a3] : List Value).toArray s 0 0 (OA (ML A) s.heap.size)) (F0 m 129 ls [.int o14]) := by
              intro ls H locs hl hP hD hS
              have hSz : s.heap.size ≤ H.size := hS.1
              refine lv_istore (lv' := [(6, .int o14), (0, .ref (A 0)), (1, .int a1), (2, .int a2), (3, .int a3)]) hx hb dX5_flip_129 hl (by decide) rfl (fun ls hl => ?_)
              refine lv_aload_n hx hb dX5_flip_131 rfl (lv_at hl 1 rfl) ?_
              refine lv_iconst (v := (0)) hx hb dX5_flip_132 (by decide) ?_
              refine lv_iload_n hx hb dX5_flip_133 rfl (lv_at hl 2 rfl) ?_
              refine lv_iload_n hx hb dX5_flip_134 rfl (lv_at hl 3 rfl) ?_
              refine lv_iload hx hb dX5_flip_135 (lv_at hl 0 rfl) ?_
              obtain ⟨r15, er15, h⟩ := obind h
              refine call_M (va_runV (As := [.int (0 : Int32), .int a1, .int a2, .int o14]) (rest := []) ⟨hx, hb, hml, hown, hts⟩ (c_X5_lays l z0 D t A (m_thrown' (m_states' (m_s' μ r13) r7.2) r6.2) (0 : Int32) a1 a2 o14 _ H.size er15) (kV hts qw1050 qw1052 qs37 qw9 qw1053 ok_X5_lays ⟨Nat.le_of_ble_eq_true rfl, Nat.le_of_ble_eq_true rfl⟩) ⟨PM.blind, va_recv hK hP (ci := 6) (q0 := 0) rfl rfl, fun U hU hW => ⟨rfl, by rw [hU]; exact (hC.at hS hZ).warm hW, by rw [hU], by rw [hU]; exact hP, ⟨hD.1, fun _ _ h9 => Or.inl (in_map (L := (ML A)) rfl h9)⟩, fun q hq => hZ q (OA.ofD hD rfl hSz q hq)⟩⟩ rfl rfl hl.1 rfl (lv_room (Nat.le_of_ble_eq_true rfl)) dX5_flip_137 ⟨Nat.le_of_ble_eq_true rfl, Nat.le_of_ble_eq_true rfl⟩) hS (OA.ofD hD rfl hSz) (fun H locs hP hD1 hS _ _ => ?_)
              have hP : va_P D vwCl (MW A t (m_thrown' (m_states' (m_s' μ r15) r7.2) r6.2)) H := hP
              have hD : va_D (OA (ML A) s.heap.size) (MW A t (m_thrown' (m_states' (m_s' μ r15) r7.2) r6.2)) := hD1.weaken (fun _ q _ h9 => OA.ofD hD rfl hSz q.1 h9)
              have hSz : s.heap.size ≤ H.size := hS.1
              refine lv_aload_n hx hb dX5_flip_140 rfl (lv_at hl 1 rfl) ?_
              refine lv_iconst (v := (0)) hx hb dX5_flip_141 (by decide) ?_
              refine lv_iload_n hx hb dX5_flip_142 rfl (lv_at hl 4 rfl) ?_
              obtain ⟨o16, eo16, h⟩ := obind h
              have hJ153_o16 : ∀ (ls : Array Slot) (H : Heap) (locs : List Loc), lv_has ls 7 [(0, .ref (A 0)), (2, .int a2), (3, .int a3), (6, .int o14)] → va_P D vwCl (MW A t (m_thrown' (m_states' (m_s' μ r15) r7.2) r6.2)) H → va_D (OA (ML A) s.heap.size) (MW A t (m_thrown' (m_states' (m_s' μ r15) r7.2) r6.2)) → va_S (OA (ML A) s.heap.size) s.heap H locs → W p l e (headSpec (ws_ yX5_flip cX5_flip 7 (some .int)) rm_X5_flip).room s m ([.ref (A 0), .int a1, .int a2, .int a3] : List Value).toArray below meth c H locs 0 0 (MQ below (QM (some (.int res.1)) D (MW A t (m_thrown' (m_states' (m_s' μ res.2.1) res.2.2.1) res.2.2.2)) (ML A) s.heap.size) ([.ref (A 0), .int a1, .int a2, .int a3] : List Value).toArray s 0 0 (OA (ML A) s.heap.size)) (F0 m 153 ls [.int o16, .int (0 : Int32), .ref (A 0)]) := by
                intro ls H locs hl hP hD hS
                have hSz : s.heap.size ≤ H.size := hS.1
                refine lv_iload_n hx hb dX5_flip_153 rfl (lv_at hl 2 rfl) ?_
                obtain ⟨o17, eo17, h⟩ := obind h
                have hJ164_o17 : ∀ (ls : Array Slot) (H : Heap) (locs : List Loc), lv_has ls 7 [(0, .ref (A 0)), (3, .int a3), (6, .int o14)] → va_P D vwCl (MW A t (m_thrown' (m_states' (m_s' μ r15) r7.2) r6.2)) H → va_D (OA (ML A) s.heap.size) (MW A t (m_thrown' (m_states' (m_s' μ r15) r7.2) r6.2)) → va_S (OA (ML A) s.heap.size) s.heap H locs → W p l e (headSpec (ws_ yX5_flip cX5_flip 7 (some .int)) rm_X5_flip).room s m ([.ref (A 0), .int a1, .int a2, .int a3] : List Value).toArray below meth c H locs 0 0 (MQ below (QM (some (.int res.1)) D (MW A t (m_thrown' (m_states' (m_s' μ res.2.1) res.2.2.1) res.2.2.2)) (ML A) s.heap.size) ([.ref (A 0), .int a1, .int a2, .int a3] : List Value).toArray s 0 0 (OA (ML A) s.heap.size)) (F0 m 164 ls [.int o17, .int o16, .int (0 : Int32), .ref (A 0)]) := by
                  intro ls H locs hl hP hD hS
                  have hSz : s.heap.size ≤ H.size := hS.1
                  refine lv_iload hx hb dX5_flip_164 (lv_at hl 2 rfl) ?_
                  refine lv_iconst (v := (2)) hx hb dX5_flip_166 (by decide) ?_
                  obtain ⟨o18, eo18, h⟩ := obind h
                  have hJ183_o18 : ∀ (ls : Array Slot) (H : Heap) (locs : List Loc), lv_has ls 7 [(0, .ref (A 0))] → va_P D vwCl (MW A t (m_thrown' (m_states' (m_s' μ r15) r7.2) r6.2)) H → va_D (OA (ML A) s.heap.size) (MW A t (m_thrown' (m_states' (m_s' μ r15) r7.2) r6.2)) → va_S (OA (ML A) s.heap.size) s.heap H locs → W p l e (headSpec (ws_ yX5_flip cX5_flip 7 (some .int)) rm_X5_flip).room s m ([.ref (A 0), .int a1, .int a2, .int a3] : List Value).toArray below meth c H locs 0 0 (MQ below (QM (some (.int res.1)) D (MW A t (m_thrown' (m_states' (m_s' μ res.2.1) res.2.2.1) res.2.2.2)) (ML A) s.heap.size) ([.ref (A 0), .int a1, .int a2, .int a3] : List Value).toArray s 0 0 (OA (ML A) s.heap.size)) (F0 m 183 ls [.int o18, .int o17, .int o16, .int (0 : Int32), .ref (A 0)]) := by
                    intro ls H locs hl hP hD hS
                    have hSz : s.heap.size ≤ H.size := hS.1
                    obtain ⟨r19, er19, h⟩ := obind h
                    refine call_M (va_runV (As := [.int (0 : Int32), .int o16, .int o17, .int o18]) (rest := []) ⟨hx, hb, hml, hown, hts⟩ (c_X5_lays l z0 D t A (m_thrown' (m_states' (m_s' μ r15) r7.2) r6.2) (0 : Int32) o16 o17 o18 _ H.size er19) (kV hts qw1050 qw1052 qs37 qw9 qw1053 ok_X5_lays ⟨Nat.le_of_ble_eq_true rfl, Nat.le_of_ble_eq_true rfl⟩) ⟨PM.blind, va_recv hK hP (ci := 6) (q0 := 0) rfl rfl, fun U hU hW => ⟨rfl, by rw [hU]; exact (hC.at hS hZ).warm hW, by rw [hU], by rw [hU]; exact hP, ⟨hD.1, fun _ _ h9 => Or.inl (in_map (L := (ML A)) rfl h9)⟩, fun q hq => hZ q (OA.ofD hD rfl hSz q hq)⟩⟩ rfl rfl hl.1 rfl (lv_room (Nat.le_of_ble_eq_true rfl)) dX5_flip_183 ⟨Nat.le_of_ble_eq_true rfl, Nat.le_of_ble_eq_true rfl⟩) hS (OA.ofD hD rfl hSz) (fun H locs hP hD1 hS _ _ => ?_)
                    have hP : va_P D vwCl (MW A t (m_thrown' (m_states' (m_s' μ r19) r7.2) r6.2)) H := hP
                    have hD : va_D (OA (ML A) s.heap.size) (MW A t (m_thrown' (m_states' (m_s' μ r19) r7.2) r6.2)) := hD1.weaken (fun _ q _ h9 => OA.ofD hD rfl hSz q.1 h9)
                    have hSz : s.heap.size ≤ H.size := hS.1
                    refine lv_aload_n hx hb dX5_flip_186 rfl (lv_at hl 0 rfl) ?_
                    refine va_get hx hb hts inX5 hown hK hP 0 rfl rfl 0 (by decide) (hts _ qw967) (fun _ h9 => h9) rfl dX5_flip_187 ?_
                    refine lv_sipush (v := (195)) hx hb dX5_flip_190 (by decide) ?_
                    refine lv_dup2_11 hx hb dX5_flip_193 rfl rfl ?_
                    obtain ⟨v20, ev20, h⟩ := obind h
                    refine k_iald hx hb hK hP 1 rfl ev20 dX5_flip_194 ?_
                    refine lv_iconst (v := (1)) hx hb dX5_flip_195 (by decide) ?_
                    refine lv_iadd hx hb dX5_flip_196 ?_
                    obtain ⟨f21, ef21, h⟩ := obind h
                    refine k_iast (ws' := (MW A t (m_thrown' (m_states' (m_s' μ f21) r7.2) r6.2))) hx hb hK hP hD hS 1 rfl ef21 rfl dX5_flip_197 (fun H locs hP hD hS => ?_)
                    have hSz : s.heap.size ≤ H.size := hS.1
                    refine lv_aload_n hx hb dX5_flip_198 rfl (lv_at hl 0 rfl) ?_
                    refine va_get hx hb hts inX5 hown hK hP 0 rfl rfl 0 (by decide) (hts _ qw967) (fun _ h9 => h9) rfl dX5_flip_199 ?_
                    refine lv_sipush (v := (195)) hx hb dX5_flip_202 (by decide) ?_
                    obtain ⟨v22, ev22, h⟩ := obind h
                    refine k_iald hx hb hK hP 1 rfl ev22 dX5_flip_205 ?_
                    obtain rfl := Option.some.inj h
                    exact W.iret hx hb hr (fun t ht hW => ⟨rfl, by rw [ht]; exact hP, hD, hS.F ht⟩) hS.2.2 dX5_flip_206
                  have h := eo18
                  clear eo18
                  refine lv_icmp_ne (tgt := 174) hx hb dX5_flip_167 (by decide) (fun hc => ?_) (fun hc => ?_)
                  · have h := iteF hc h
                    refine lv_iload_n hx hb dX5_flip_174 rfl (lv_at hl 1 rfl) ?_
                    refine lv_if_eq (tgt := 182) hx hb dX5_flip_175 (by decide) (fun hc => ?_) (fun hc => ?_)
                    · have h := iteT hc h
                      refine lv_iconst (v := (3)) hx hb dX5_flip_182 (by decide) ?_
                      obtain rfl := Option.some.inj h
                      exact hJ183_o18 ls H locs (lv_sub hl [0] rfl) hP hD hS
                    · have h := iteF hc h
                      refine lv_iconst (v := (1)) hx hb dX5_flip_178 (by decide) ?_
                      refine lv_goto (tgt := 183) hx hb dX5_flip_179 (by decide) ?_
                      obtain rfl := Option.some.inj h
                      exact hJ183_o18 ls H locs (lv_sub hl [0] rfl) hP hD hS
                  · have h := iteT hc h
                    refine lv_iconst (v := (0)) hx hb dX5_flip_170 (by decide) ?_
                    refine lv_goto (tgt := 183) hx hb dX5_flip_171 (by decide) ?_
                    obtain rfl := Option.some.inj h
                    exact hJ183_o18 ls H locs (lv_sub hl [0] rfl) hP hD hS
                have h := eo17
                clear eo17
                refine lv_if_eq (tgt := 163) hx hb dX5_flip_154 (by decide) (fun hc => ?_) (fun hc => ?_)
                · have h := iteT hc h
                  refine lv_iload_n hx hb dX5_flip_163 rfl (lv_at hl 1 rfl) ?_
                  obtain rfl := Option.some.inj h
                  exact hJ164_o17 ls H locs (lv_sub hl [0, 2, 3] rfl) hP hD hS
                · have h := iteF hc h
                  refine lv_iload_n hx hb dX5_flip_157 rfl (lv_at hl 1 rfl) ?_
                  refine lv_iconst (v := (1)) hx hb dX5_flip_158 (by decide) ?_
                  refine lv_iadd hx hb dX5_flip_159 ?_
                  refine lv_goto (tgt := 164) hx hb dX5_flip_160 (by decide) ?_
                  obtain rfl := Option.some.inj h
                  exact hJ164_o17 ls H locs (lv_sub hl [0, 2, 3] rfl) hP hD hS
              have h := eo16
              clear eo16
              refine lv_if_eq (tgt := 150) hx hb dX5_flip_143 (by decide) (fun hc => ?_) (fun hc => ?_)
              · have h := iteT hc h
                refine lv_iload_n hx hb dX5_flip_150 rfl (lv_at hl 2 rfl) ?_
                refine lv_iconst (v := (1)) hx hb dX5_flip_151 (by decide) ?_
                refine lv_iadd hx hb dX5_flip_152 ?_
                obtain rfl := Option.some.inj h
                exact hJ153_o16 ls H locs (lv_sub hl [1, 3, 4, 0] rfl) hP hD hS
              · have h := iteF hc h
                refine lv_iload_n hx hb dX5_flip_146 rfl (lv_at hl 2 rfl) ?_
                refine lv_goto (tgt := 153) hx hb dX5_flip_147 (by decide) ?_
                obtain rfl := Option.some.inj h
                exact hJ153_o16 ls H locs (lv_sub hl [1, 3, 4, 0] rfl) hP hD hS
            have h := eo14
            clear eo14
            refine lv_icmp_eq (tgt := 120) hx hb dX5_flip_113 (by decide) (fun hc => ?_) (fun hc => ?_)
            · have h := iteT hc h
              refine lv_iload_n hx hb dX5_flip_120 rfl (lv_at hl 3 rfl) ?_
              refine lv_if_eq (tgt := 128) hx hb dX5_flip_121 (by decide) (fun hc => ?_) (fun hc => ?_)
              · have h := iteT hc h
                refine lv_iconst (v := (1)) hx hb dX5_flip_128 (by decide) ?_
                obtain rfl := Option.some.inj h
                exact hJ129_o14 ls H locs (lv_sub hl [0, 1, 2, 3] rfl) hP hD hS
              · have h := iteF hc h
                refine lv_iconst (v := (3)) hx hb dX5_flip_124 (by decide) ?_
                refine lv_goto (tgt := 129) hx hb dX5_flip_125 (by decide) ?_
                obtain rfl := Option.some.inj h
                exact hJ129_o14 ls H locs (lv_sub hl [0, 1, 2, 3] rfl) hP hD hS
            · have h := iteF hc h
              refine lv_iconst (v := (2)) hx hb dX5_flip_116 (by decide) ?_
              refine lv_goto (tgt := 129) hx hb dX5_flip_117 (by decide) ?_
              obtain rfl := Option.some.inj h
              exact hJ129_o14 ls H locs (lv_sub hl [0, 1, 2, 3] rfl) hP hD hS
          have h := eo11
          clear eo11
          refine lv_if_eq (tgt := 104) hx hb dX5_flip_97 (by decide) (fun hc => ?_) (fun hc => ?_)
          · have h := iteT hc h
            refine lv_iconst (v := (2)) hx hb dX5_flip_104 (by decide) ?_
            obtain rfl := Option.some.inj h
            exact hJ105_o11 ls H locs (lv_sub hl [0, 1, 2, 3, 4] rfl) hP hD hS
          · have h := iteF hc h
            refine lv_iconst (v := (1)) hx hb dX5_flip_100 (by decide) ?_
            refine lv_goto (tgt := 105) hx hb dX5_flip_101 (by decide) ?_
            obtain rfl := Option.some.inj h
            exact hJ105_o11 ls H locs (lv_sub hl [0, 1, 2, 3, 4] rfl) hP hD hS
        have h := eo10
        clear eo10
        refine lv_if_eq (tgt := 90) hx hb dX5_flip_83 (by decide) (fun hc => ?_) (fun hc => ?_)
        · have h := iteT hc h
          refine lv_iconst (v := (1)) hx hb dX5_flip_90 (by decide) ?_
          obtain rfl := Option.some.inj h
          exact hJ91_o10 ls H locs (lv_sub hl [0, 1, 2, 3, 4] rfl) hP hD hS
        · have h := iteF hc h
          refine lv_iconst (v := (2)) hx hb dX5_flip_86 (by decide) ?_
          refine lv_goto (tgt := 91) hx hb dX5_flip_87 (by decide) ?_
          obtain rfl := Option.some.inj h
          exact hJ91_o10 ls H locs (lv_sub hl [0, 1, 2, 3, 4] rfl) hP hD hS
      · have h := iteT hc h
        refine lv_iconst (v := (0)) hx hb dX5_flip_46 (by decide) ?_
        obtain rfl := Option.some.inj h
        exact W.iret hx hb hr (fun t ht hW => ⟨rfl, by rw [ht]; exact hP, hD, hS.F ht⟩) hS.2.2 dX5_flip_47
    have h := eo5
    clear eo5
    refine lv_if_lt (tgt := 39) hx hb dX5_flip_32 (by decide) (fun hc => ?_) (fun hc => ?_)
    · have h := iteT hc h
      refine lv_iconst (v := (0)) hx hb dX5_flip_39 (by decide) ?_
      obtain rfl := Option.some.inj h
      exact hJ40_o5 ls H locs (lv_sub hl [1, 2, 3, 4, 0] rfl) hP hD hS
    · have h := iteF hc h
      refine lv_iconst (v := (1)) hx hb dX5_flip_35 (by decide) ?_
      refine lv_goto (tgt := 40) hx hb dX5_flip_36 (by decide) ?_
      obtain rfl := Option.some.inj h
      exact hJ40_o5 ls H locs (lv_sub hl [1, 2, 3, 4, 0] rfl) hP hD hS
  have h := eo3
  clear eo3
  refine lv_if_eq (tgt := 24) hx hb dX5_flip_11 (by decide) (fun hc => ?_) (fun hc => ?_)
  · have h := iteT hc h
    refine lv_iconst (v := (-1)) hx hb dX5_flip_24 (by decide) ?_
    obtain rfl := Option.some.inj h
    exact hJ25_o3 ls H locs (lv_sub hl [1, 2, 3, 4, 0] rfl) hP hD hS
  · have h := iteF hc h
    refine lv_aload_n hx hb dX5_flip_14 rfl (lv_at hl 1 rfl) ?_
    refine lv_iload_n hx hb dX5_flip_15 rfl (lv_at hl 2 rfl) ?_
    refine lv_iload_n hx hb dX5_flip_16 rfl (lv_at hl 3 rfl) ?_
    refine lv_iload_n hx hb dX5_flip_17 rfl (lv_at hl 4 rfl) ?_
    obtain ⟨r4, er4, h⟩ := obind h
    refine call_R (va_runV (As := [.int a1, .int a2, .int a3]) (rest := []) ⟨hx, hb, hml, hown, hts⟩ (c_X5_turnOf l z0 D t A μ a1 a2 a3 _ er4) (kV hts qw1070 qw1072 qs40 qw9 qw1073 ok_X5_turnOf ⟨Nat.le_of_ble_eq_true rfl, Nat.le_of_ble_eq_true rfl⟩) ⟨PR.blind, va_recv hK hP (ci := 6) (q0 := 0) rfl rfl, fun U hU hW => ⟨rfl, by rw [hU]; exact (hC.at hS hZ).warm hW, by rw [hU]; exact hP⟩⟩ rfl rfl hl.1 rfl (lv_room (Nat.le_of_ble_eq_true rfl)) dX5_flip_18 ⟨Nat.le_of_ble_eq_true rfl, Nat.le_of_ble_eq_true rfl⟩) ?_
    refine lv_goto (tgt := 25) hx hb dX5_flip_21 (by decide) ?_
    obtain rfl := Option.some.inj h
    exact hJ25_o3 ls H locs (lv_sub hl [1, 2, 3, 4, 0] rfl) hP hD hS

abbrev rm_X5_clears : Room := { frames := 0, cells := 0, slots := 0, locals := 0 }
theorem ok_X5_clears : okY yX5_clears 0 := ⟨by decide +kernel, by decide +kernel, by decide +kernel⟩
set_option maxHeartbeats 4000000 in
set_option maxRecDepth 100000 in
theorem c_X5_clears (l : Launch) (z0 : Nat) (D : va_G) (t : Nat → ClassId) (A : Nat → Nat) (μ : MS) (res : (Nat → Int32)) (sz : Nat) (h : f_X5_clears μ = some res) : Met l yX5_clears (ws_ yX5_clears cX5_clears 2 none) rm_X5_clears (PM z0 D t [.ref (A 0)] (MW A t μ) (ML A) sz) (QM none D (MW A t (m_next' μ res)) (ML A) sz) 0 0 (OA (ML A) sz) := by
  refine Met.ofW (cc := cX5_clears) (maxL := 2) (ret := none) (by decide) rfl ?_
  intro p e s m args below meth c s₁ Bo hml hv
  obtain ⟨rfl, hC, hsz, hP, hD, hZ⟩ := hv
  have hx := Bo.exec
  have hb := Bo.bytes
  have hr := Bo.returns
  have hts : ∀ w ∈ LA, w.before _ s = true := fun w hw => atoms_spec (ws := ws_ yX5_clears cX5_clears 2 none) Bo.pre w (List.mem_cons_of_mem _ hw)
  have hown : s.vm.findClass RX5 = some m.cls := findClass_of_methodNamed Bo.named
  have hlocks := Bo.notSynchronized
  have hK := hC.1
  subst hsz
  have hl := lv_entry ([.ref (A 0)]) (n := 2) (Nat.le_of_ble_eq_true rfl)
  rw [lg_entry_eq]
  generalize (lg_sl ([.ref (A 0)]) ++ List.replicate (2 - (lg_sl ([.ref (A 0)])).length) Slot.unset).toArray = ls at hl ⊢
  have hl : lv_has ls 2 [(0, .ref (A 0))] := hl
  suffices K9 : ∀ (H : Heap) (locs : List Loc), va_P D vwCl (MW A t μ) H → va_S (OA (ML A) s.heap.size) s.heap H locs → W p l e (headSpec (ws_ yX5_clears cX5_clears 2 none) rm_X5_clears).room s m ([.ref (A 0)] : List Value).toArray below meth c H locs 0 0 (MQ below (QM none D (MW A t (m_next' μ res)) (ML A) s.heap.size) ([.ref (A 0)] : List Value).toArray s 0 0 (OA (ML A) s.heap.size)) (F0 m 0 ls []) from K9 s.heap [] hP va_S.rf
  intro H locs hP hS
  have hSz : s.heap.size ≤ H.size := hS.1
  unfold f_X5_clears at h
  refine lv_iconst (v := (0)) hx hb dX5_clears_0 (by decide) ?_
  refine lv_istore_n (lv' := [(1, .int (0 : Int32)), (0, .ref (A 0))]) hx hb dX5_clears_1 rfl hl (by decide) rfl (fun ls hl => ?_)
  obtain ⟨o5, eo5, h⟩ := obind h
  have hL2 : ∀ (n : Nat) (y1_2 : Int32) (next_2 : Nat → Int32) (o5 : (Nat → Int32)), f_X5_clears_L2 n y1_2 next_2 = some o5 → (∀ (ls : Array Slot) (H : Heap) (locs : List Loc), lv_has ls 2 [] → va_P D vwCl (MW A t (m_next' μ o5)) H → va_D (OA (ML A) s.heap.size) (MW A t (m_next' μ o5)) → va_S (OA (ML A) s.heap.size) s.heap H locs → W p l e (headSpec (ws_ yX5_clears cX5_clears 2 none) rm_X5_clears).room s m ([.ref (A 0)] : List Value).toArray below meth c H locs 0 0 (MQ below (QM none D (MW A t (m_next' μ res)) (ML A) s.heap.size) ([.ref (A 0)] : List Value).toArray s 0 0 (OA (ML A) s.heap.size)) (F0 m 22 ls [])) → ∀ (ls : Array Slot) (H : Heap) (locs : List Loc), lv_has ls 2 [(0, .ref (A 0)), (1, .int y1_2)] → va_P D vwCl (MW A t (m_next' μ next_2)) H → va_D (OA (ML A) s.heap.size) (MW A t (m_next' μ next_2)) → va_S (OA (ML A) s.heap.size) s.heap H locs → W p l e (headSpec (ws_ yX5_clears cX5_clears 2 none) rm_X5_clears).room s m ([.ref (A 0)] : List Value).toArray below meth c H locs 0 0 (MQ below (QM none D (MW A t (m_next' μ res)) (ML A) s.heap.size) ([.ref (A 0)] : List Value).toArray s 0 0 (OA (ML A) s.heap.size)) (F0 m 2 ls []) := by
    intro n
    induction n with
    | zero => intro y1_2 next_2 o5 h; exact absurd h (fun z => by cases z)
    | succ n ih =>
      intro y1_2 next_2 o5 h hK2 ls H locs hl hP hD hS
      replace h : f_X5_clears_L2_b (f_X5_clears_L2 n) y1_2 next_2 = some o5 := h
      unfold f_X5_clears_L2_b at h
      have hSz : s.heap.size ≤ H.size := hS.1
      refine lv_iload_n hx hb dX5_clears_2 rfl (lv_at hl 1 rfl) ?_
      refine lv_sipush (v := (1024)) hx hb dX5_clears_3 (by decide) ?_
      refine lv_icmp_ge (tgt := 22) hx hb dX5_clears_6 (by decide) (fun hc => ?_) (fun hc => ?_)
      · have h := iteT hc h
        obtain rfl := Option.some.inj h
        exact hK2 ls H locs (lv_sub hl [] rfl) hP hD hS
      · have h := iteF hc h
        refine lv_aload_n hx hb dX5_clears_9 rfl (lv_at hl 0 rfl) ?_
        refine va_get hx hb hts inX5 hown hK hP 0 rfl rfl 8 (by decide) (hts _ qw975) (fun _ h9 => h9) rfl dX5_clears_10 ?_
        refine lv_iload_n hx hb dX5_clears_13 rfl (lv_at hl 1 rfl) ?_
        refine lv_iconst (v := (0)) hx hb dX5_clears_14 (by decide) ?_
        obtain ⟨f6, ef6, h⟩ := obind h
        refine k_iast (ws' := (MW A t (m_next' μ f6))) hx hb hK hP hD hS 5 rfl ef6 rfl dX5_clears_15 (fun H locs hP hD hS => ?_)
        have hSz : s.heap.size ≤ H.size := hS.1
        obtain ⟨x7, ex7, h⟩ := jlet_some h
        refine lv_iinc (v := x7) (lv' := [(1, .int x7), (0, .ref (A 0))]) hx hb dX5_clears_16 hl (k := 1) rfl (by rw [ex7]; rfl) (by decide) rfl (fun ls hl => ?_)
        refine lv_goto (tgt := 2) hx hb dX5_clears_19 (by decide) ?_
        exact ih _ _ _ h hK2 ls H locs (lv_sub hl [1, 0] rfl) hP hD hS
  refine hL2 _ _ _ _ eo5 (fun ls H locs hl hP hD hS => ?_) ls H locs (lv_sub hl [1, 0] rfl) hP hD hS
  have hSz : s.heap.size ≤ H.size := hS.1
  obtain rfl := Option.some.inj h
  exact W.vret hx hb hr (fun t ht hW => ⟨rfl, by rw [ht]; exact hP, hD, hS.F ht⟩) hS.2.2 dX5_clears_22

abbrev rm_X5_takes : Room := { frames := 0, cells := 0, slots := 0, locals := 0 }
theorem ok_X5_takes : okY yX5_takes 0 := ⟨by decide +kernel, by decide +kernel, by decide +kernel⟩
set_option maxHeartbeats 4000000 in
set_option maxRecDepth 100000 in
theorem c_X5_takes (l : Launch) (z0 : Nat) (D : va_G) (t : Nat → ClassId) (A : Nat → Nat) (μ : MS) (res : (Nat → Int32)) (sz : Nat) (h : f_X5_takes μ = some res) : Met l yX5_takes (ws_ yX5_takes cX5_takes 2 none) rm_X5_takes (PM z0 D t [.ref (A 0)] (MW A t μ) (ML A) sz) (QM none D (MW A t (m_ways' μ res)) (ML A) sz) 0 0 (OA (ML A) sz) := by
  refine Met.ofW (cc := cX5_takes) (maxL := 2) (ret := none) (by decide) rfl ?_
  intro p e s m args below meth c s₁ Bo hml hv
  obtain ⟨rfl, hC, hsz, hP, hD, hZ⟩ := hv
  have hx := Bo.exec
  have hb := Bo.bytes
  have hr := Bo.returns
  have hts : ∀ w ∈ LA, w.before _ s = true := fun w hw => atoms_spec (ws := ws_ yX5_takes cX5_takes 2 none) Bo.pre w (List.mem_cons_of_mem _ hw)
  have hown : s.vm.findClass RX5 = some m.cls := findClass_of_methodNamed Bo.named
  have hlocks := Bo.notSynchronized
  have hK := hC.1
  subst hsz
  have hl := lv_entry ([.ref (A 0)]) (n := 2) (Nat.le_of_ble_eq_true rfl)
  rw [lg_entry_eq]
  generalize (lg_sl ([.ref (A 0)]) ++ List.replicate (2 - (lg_sl ([.ref (A 0)])).length) Slot.unset).toArray = ls at hl ⊢
  have hl : lv_has ls 2 [(0, .ref (A 0))] := hl
  suffices K9 : ∀ (H : Heap) (locs : List Loc), va_P D vwCl (MW A t μ) H → va_S (OA (ML A) s.heap.size) s.heap H locs → W p l e (headSpec (ws_ yX5_takes cX5_takes 2 none) rm_X5_takes).room s m ([.ref (A 0)] : List Value).toArray below meth c H locs 0 0 (MQ below (QM none D (MW A t (m_ways' μ res)) (ML A) s.heap.size) ([.ref (A 0)] : List Value).toArray s 0 0 (OA (ML A) s.heap.size)) (F0 m 0 ls []) from K9 s.heap [] hP va_S.rf
  intro H locs hP hS
  have hSz : s.heap.size ≤ H.size := hS.1
  unfold f_X5_takes at h
  refine lv_iconst (v := (0)) hx hb dX5_takes_0 (by decide) ?_
  refine lv_istore_n (lv' := [(1, .int (0 : Int32)), (0, .ref (A 0))]) hx hb dX5_takes_1 rfl hl (by decide) rfl (fun ls hl => ?_)
  obtain ⟨o7, eo7, h⟩ := obind h
  have hL2 : ∀ (n : Nat) (y1_2 : Int32) (ways_2 : Nat → Int32) (o7 : (Nat → Int32)), f_X5_takes_L2 μ n y1_2 ways_2 = some o7 → (∀ (ls : Array Slot) (H : Heap) (locs : List Loc), lv_has ls 2 [] → va_P D vwCl (MW A t (m_ways' μ o7)) H → va_D (OA (ML A) s.heap.size) (MW A t (m_ways' μ o7)) → va_S (OA (ML A) s.heap.size) s.heap H locs → W p l e (headSpec (ws_ yX5_takes cX5_takes 2 none) rm_X5_takes).room s m ([.ref (A 0)] : List Value).toArray below meth c H locs 0 0 (MQ below (QM none D (MW A t (m_ways' μ res)) (ML A) s.heap.size) ([.ref (A 0)] : List Value).toArray s 0 0 (OA (ML A) s.heap.size)) (F0 m 27 ls [])) → ∀ (ls : Array Slot) (H : Heap) (locs : List Loc), lv_has ls 2 [(0, .ref (A 0)), (1, .int y1_2)] → va_P D vwCl (MW A t (m_ways' μ ways_2)) H → va_D (OA (ML A) s.heap.size) (MW A t (m_ways' μ ways_2)) → va_S (OA (ML A) s.heap.size) s.heap H locs → W p l e (headSpec (ws_ yX5_takes cX5_takes 2 none) rm_X5_takes).room s m ([.ref (A 0)] : List Value).toArray below meth c H locs 0 0 (MQ below (QM none D (MW A t (m_ways' μ res)) (ML A) s.heap.size) ([.ref (A 0)] : List Value).toArray s 0 0 (OA (ML A) s.heap.size)) (F0 m 2 ls []) := by
    intro n
    induction n with
    | zero => intro y1_2 ways_2 o7 h; exact absurd h (fun z => by cases z)
    | succ n ih =>
      intro y1_2 ways_2 o7 h hK2 ls H locs hl hP hD hS
      replace h : f_X5_takes_L2_b μ (f_X5_takes_L2 μ n) y1_2 ways_2 = some o7 := h
      unfold f_X5_takes_L2_b at h
      have hSz : s.heap.size ≤ H.size := hS.1
      refine lv_iload_n hx hb dX5_takes_2 rfl (lv_at hl 1 rfl) ?_
      refine lv_sipush (v := (1024)) hx hb dX5_takes_3 (by decide) ?_
      refine lv_icmp_ge (tgt := 27) hx hb dX5_takes_6 (by decide) (fun hc => ?_) (fun hc => ?_)
      · have h := iteT hc h
        obtain rfl := Option.some.inj h
        exact hK2 ls H locs (lv_sub hl [] rfl) hP hD hS
      · have h := iteF hc h
        refine lv_aload_n hx hb dX5_takes_9 rfl (lv_at hl 0 rfl) ?_
        refine va_get hx hb hts inX5 hown hK hP 0 rfl rfl 7 (by decide) (hts _ qw974) (fun _ h9 => h9) rfl dX5_takes_10 ?_
        refine lv_iload_n hx hb dX5_takes_13 rfl (lv_at hl 1 rfl) ?_
        refine lv_aload_n hx hb dX5_takes_14 rfl (lv_at hl 0 rfl) ?_
        refine va_get hx hb hts inX5 hown hK hP 0 rfl rfl 8 (by decide) (hts _ qw975) (fun _ h9 => h9) rfl dX5_takes_15 ?_
        refine lv_iload_n hx hb dX5_takes_18 rfl (lv_at hl 1 rfl) ?_
        obtain ⟨v8, ev8, h⟩ := obind h
        refine k_iald hx hb hK hP 5 rfl ev8 dX5_takes_19 ?_
        obtain ⟨f9, ef9, h⟩ := obind h
        refine k_iast (ws' := (MW A t (m_ways' μ f9))) hx hb hK hP hD hS 4 rfl ef9 rfl dX5_takes_20 (fun H locs hP hD hS => ?_)
        have hSz : s.heap.size ≤ H.size := hS.1
        obtain ⟨x10, ex10, h⟩ := jlet_some h
        refine lv_iinc (v := x10) (lv' := [(1, .int x10), (0, .ref (A 0))]) hx hb dX5_takes_21 hl (k := 1) rfl (by rw [ex10]; rfl) (by decide) rfl (fun ls hl => ?_)
        refine lv_goto (tgt := 2) hx hb dX5_takes_24 (by decide) ?_
        exact ih _ _ _ h hK2 ls H locs (lv_sub hl [1, 0] rfl) hP hD hS
  refine hL2 _ _ _ _ eo7 (fun ls H locs hl hP hD hS => ?_) ls H locs (lv_sub hl [1, 0] rfl) hP hD hS
  have hSz : s.heap.size ≤ H.size := hS.1
  obtain rfl := Option.some.inj h
  exact W.vret hx hb hr (fun t ht hW => ⟨rfl, by rw [ht]; exact hP, hD, hS.F ht⟩) hS.2.2 dX5_takes_27

abbrev rm_X5_isFree : Room := { frames := 0, cells := 0, slots := 0, locals := 0 }
theorem ok_X5_isFree : okY yX5_isFree 2 := ⟨by decide +kernel, by decide +kernel, by decide +kernel⟩
set_option maxHeartbeats 4000000 in
set_option maxRecDepth 100000 in
theorem c_X5_isFree (l : Launch) (z0 : Nat) (D : va_G) (t : Nat → ClassId) (A : Nat → Nat) (μ : MS) (a1 : Int32) (a2 : Int32) (res : Int32) (h : f_X5_isFree μ a1 a2 = some res) : Met l yX5_isFree (ws_ yX5_isFree cX5_isFree 3 (some .boolean)) rm_X5_isFree (PR z0 D t [.ref (A 0), .int a1, .int a2] (MW A t μ)) (QR (some (.int res))) 0 0 FN := by
  refine Met.ofW (cc := cX5_isFree) (maxL := 3) (ret := (some .boolean)) (by decide) rfl ?_
  intro p e s m args below meth c s₁ Bo hml hv
  obtain ⟨rfl, hC, hP⟩ := hv
  have hx := Bo.exec
  have hb := Bo.bytes
  have hr := Bo.returns
  have hts : ∀ w ∈ LA, w.before _ s = true := fun w hw => atoms_spec (ws := ws_ yX5_isFree cX5_isFree 3 (some .boolean)) Bo.pre w (List.mem_cons_of_mem _ hw)
  have hown : s.vm.findClass RX5 = some m.cls := findClass_of_methodNamed Bo.named
  have hlocks := Bo.notSynchronized
  have hK := hC.1
  have hl := lv_entry ([.ref (A 0), .int a1, .int a2]) (n := 3) (Nat.le_of_ble_eq_true rfl)
  rw [lg_entry_eq]
  generalize (lg_sl ([.ref (A 0), .int a1, .int a2]) ++ List.replicate (3 - (lg_sl ([.ref (A 0), .int a1, .int a2])).length) Slot.unset).toArray = ls at hl ⊢
  have hl : lv_has ls 3 [(0, .ref (A 0)), (1, .int a1), (2, .int a2)] := hl
  unfold f_X5_isFree at h
  refine lv_iload_n hx hb dX5_isFree_0 rfl (lv_at hl 2 rfl) ?_
  refine lv_aload_n hx hb dX5_isFree_1 rfl (lv_at hl 0 rfl) ?_
  refine va_get hx hb hts inX5 hown hK hP 0 rfl rfl 0 (by decide) (hts _ qw967) (fun _ h9 => h9) rfl dX5_isFree_2 ?_
  refine lv_iload_n hx hb dX5_isFree_5 rfl (lv_at hl 1 rfl) ?_
  refine lv_iconst (v := (2)) hx hb dX5_isFree_6 (by decide) ?_
  refine lv_iadd hx hb dX5_isFree_7 ?_
  obtain ⟨v1, ev1, h⟩ := obind h
  refine k_iald hx hb hK hP 1 rfl ev1 dX5_isFree_8 ?_
  refine lv_icmp_eq (tgt := 43) hx hb dX5_isFree_9 (by decide) (fun hc => ?_) (fun hc => ?_)
  · have h := iteT hc h
    refine lv_iconst (v := (0)) hx hb dX5_isFree_43 (by decide) ?_
    obtain rfl := Option.some.inj h
    exact W.zret hx hb hr rfl (fun t ht hW => ⟨rfl, ht⟩) (fun q hq => absurd hq List.not_mem_nil) dX5_isFree_44
  · have h := iteF hc h
    refine lv_aload_n hx hb dX5_isFree_12 rfl (lv_at hl 0 rfl) ?_
    refine va_get hx hb hts inX5 hown hK hP 0 rfl rfl 0 (by decide) (hts _ qw967) (fun _ h9 => h9) rfl dX5_isFree_13 ?_
    refine lv_iload_n hx hb dX5_isFree_16 rfl (lv_at hl 1 rfl) ?_
    refine lv_iconst (v := (3)) hx hb dX5_isFree_17 (by decide) ?_
    refine lv_iadd hx hb dX5_isFree_18 ?_
    refine lv_iload_n hx hb dX5_isFree_19 rfl (lv_at hl 2 rfl) ?_
    refine lv_iadd hx hb dX5_isFree_20 ?_
    obtain ⟨v2, ev2, h⟩ := obind h
    refine k_iald hx hb hK hP 1 rfl ev2 dX5_isFree_21 ?_
    refine lv_if_ne (tgt := 43) hx hb dX5_isFree_22 (by decide) (fun hc => ?_) (fun hc => ?_)
    · have h := iteF hc h
      refine lv_iconst (v := (0)) hx hb dX5_isFree_43 (by decide) ?_
      obtain rfl := Option.some.inj h
      exact W.zret hx hb hr rfl (fun t ht hW => ⟨rfl, ht⟩) (fun q hq => absurd hq List.not_mem_nil) dX5_isFree_44
    · have h := iteT hc h
      refine lv_aload_n hx hb dX5_isFree_25 rfl (lv_at hl 0 rfl) ?_
      refine va_get hx hb hts inX5 hown hK hP 0 rfl rfl 0 (by decide) (hts _ qw967) (fun _ h9 => h9) rfl dX5_isFree_26 ?_
      refine lv_iload_n hx hb dX5_isFree_29 rfl (lv_at hl 1 rfl) ?_
      refine lv_bipush (v := (67)) hx hb dX5_isFree_30 (by decide) ?_
      refine lv_iadd hx hb dX5_isFree_32 ?_
      refine lv_iload_n hx hb dX5_isFree_33 rfl (lv_at hl 2 rfl) ?_
      refine lv_iadd hx hb dX5_isFree_34 ?_
      obtain ⟨v3, ev3, h⟩ := obind h
      refine k_iald hx hb hK hP 1 rfl ev3 dX5_isFree_35 ?_
      refine lv_if_ge (tgt := 43) hx hb dX5_isFree_36 (by decide) (fun hc => ?_) (fun hc => ?_)
      · have h := iteT hc h
        refine lv_iconst (v := (0)) hx hb dX5_isFree_43 (by decide) ?_
        obtain rfl := Option.some.inj h
        exact W.zret hx hb hr rfl (fun t ht hW => ⟨rfl, ht⟩) (fun q hq => absurd hq List.not_mem_nil) dX5_isFree_44
      · have h := iteF hc h
        refine lv_iconst (v := (1)) hx hb dX5_isFree_39 (by decide) ?_
        refine lv_goto (tgt := 44) hx hb dX5_isFree_40 (by decide) ?_
        obtain rfl := Option.some.inj h
        exact W.zret hx hb hr rfl (fun t ht hW => ⟨rfl, ht⟩) (fun q hq => absurd hq List.not_mem_nil) dX5_isFree_44
