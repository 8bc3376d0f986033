abbrev rm_X4_append : Room := { frames := 6, cells := 0, slots := 0, locals := 120 }
theorem ok_X4_append : okY yX4_append 1 := ⟨by decide +kernel, by decide +kernel, by decide +kernel⟩
set_option maxHeartbeats 4000000 in
set_option maxRecDepth 100000 in
theorem c_X4_append (l : Launch) (z0 : Nat) (D : va_G) (t : Nat → ClassId) (x0 : Nat) (s0 : Nat) (s1 : Nat) (e0 : Nat) (E : Nat → Nat) (A : Nat → Nat) (u1 : Nat) (u2 : Nat) (B : Nat → Nat) (G : Nat → Nat) (T : va_W) (μ : XS) (a1 : Int32) (res : Int32 × (Int32) × (Nat → Int32)) (sz : Nat) (h : f_X4_append μ a1 = some (.inl res)) : Met l yX4_append (ws_ yX4_append cX4_append 2 (some .int)) rm_X4_append (PM z0 D t [.ref (x0), .int a1] (XW x0 s0 s1 e0 E A u1 u2 B G T t μ) (XL x0 s0 s1 e0 E A u1 u2 B G T) sz) (QM (some (.int res.1)) D (XW x0 s0 s1 e0 E A u1 u2 B G T t (x_codes' (x_length' μ res.2.1) res.2.2)) (XL x0 s0 s1 e0 E A u1 u2 B G T) sz) 0 0 (OA (XL x0 s0 s1 e0 E A u1 u2 B G T) sz) := by
  refine Met.ofW (cc := cX4_append) (maxL := 2) (ret := (some .int)) (by decide) rfl ?_
  intro p e s m args below meth c s₁ Bo hml hv
  obtain ⟨rfl, hC, hsz, hP, hD, hZ⟩ := hv
  have hx := Bo.exec
  have hb := Bo.bytes
  have hr := Bo.returns
  have hts : ∀ w ∈ LA, w.before _ s = true := fun w hw => atoms_spec (ws := ws_ yX4_append cX4_append 2 (some .int)) Bo.pre w (List.mem_cons_of_mem _ hw)
  have hown : s.vm.findClass RX4 = some m.cls := findClass_of_methodNamed Bo.named
  have hlocks := Bo.notSynchronized
  have hK := hC.1
  subst hsz
  have hl := lv_entry ([.ref (x0), .int a1]) (n := 2) (Nat.le_of_ble_eq_true rfl)
  rw [lg_entry_eq]
  generalize (lg_sl ([.ref (x0), .int a1]) ++ List.replicate (2 - (lg_sl ([.ref (x0), .int a1])).length) Slot.unset).toArray = ls at hl ⊢
  have hl : lv_has ls 2 [(0, .ref (x0)), (1, .int a1)] := hl
  suffices K9 : ∀ (H : Heap) (locs : List Loc), va_P D vwCl (XW x0 s0 s1 e0 E A u1 u2 B G T t μ) H → va_S (OA (XL x0 s0 s1 e0 E A u1 u2 B G T) s.heap.size) s.heap H locs → W p l e (headSpec (ws_ yX4_append cX4_append 2 (some .int)) rm_X4_append).room s m ([.ref (x0), .int a1] : List Value).toArray below meth c H locs 0 0 (MQ below (QM (some (.int res.1)) D (XW x0 s0 s1 e0 E A u1 u2 B G T t (x_codes' (x_length' μ res.2.1) res.2.2)) (XL x0 s0 s1 e0 E A u1 u2 B G T) s.heap.size) ([.ref (x0), .int a1] : List Value).toArray s 0 0 (OA (XL x0 s0 s1 e0 E A u1 u2 B G T) s.heap.size)) (F0 m 0 ls []) from K9 s.heap [] hP va_S.rf
  intro H locs hP hS
  have hSz : s.heap.size ≤ H.size := hS.1
  unfold f_X4_append at h
  refine lv_iload_n hx hb dX4_append_0 rfl (lv_at hl 1 rfl) ?_
  refine lv_bipush (v := (33)) hx hb dX4_append_1 (by decide) ?_
  refine lv_icmp_lt (tgt := 12) hx hb dX4_append_3 (by decide) (fun hc => ?_) (fun hc => ?_)
  · have h := iteT hc h
    exact absurd (Option.some.inj h) (fun z => by cases z)
  · have h := iteF hc h
    refine lv_iload_n hx hb dX4_append_6 rfl (lv_at hl 1 rfl) ?_
    refine lv_bipush (v := (126)) hx hb dX4_append_7 (by decide) ?_
    refine lv_icmp_le (tgt := 22) hx hb dX4_append_9 (by decide) (fun hc => ?_) (fun hc => ?_)
    · have h := iteT hc h
      refine lv_aload_n hx hb dX4_append_22 rfl (lv_at hl 0 rfl) ?_
      refine va_get hx hb hts inX4 hown hK hP 0 rfl rfl 2 (by decide) (hts _ qw141) (fun _ h9 => h9) rfl dX4_append_23 ?_
      obtain ⟨r1, er1, h⟩ := obind h
      refine call_R (va_runV (As := []) (rest := []) ⟨hx, hb, hml, hown, hts⟩ (c_X0_isFull l z0 D t E ((x_length μ), (x_codes μ)) _ er1) (kV hts qw811 qw812 qw813 qw5 qw814 ok_X0_isFull ⟨Nat.le_of_ble_eq_true rfl, Nat.le_of_ble_eq_true rfl⟩) ⟨PR.blind, va_recv hK (sub_X_B (μ := μ) hP) (ci := 1) (q0 := 0) rfl rfl, fun U hU hW => ⟨rfl, by rw [hU]; exact (hC.at hS hZ).warm hW, by rw [hU]; exact (sub_X_B (μ := μ) hP)⟩⟩ rfl rfl hl.1 rfl (lv_room (Nat.le_of_ble_eq_true rfl)) dX4_append_26 ⟨Nat.le_of_ble_eq_true rfl, Nat.le_of_ble_eq_true rfl⟩) ?_
      refine lv_if_eq (tgt := 42) hx hb dX4_append_29 (by decide) (fun hc => ?_) (fun hc => ?_)
      · have h := iteT hc h
        refine lv_aload_n hx hb dX4_append_42 rfl (lv_at hl 0 rfl) ?_
        refine va_get hx hb hts inX4 hown hK hP 0 rfl rfl 2 (by decide) (hts _ qw141) (fun _ h9 => h9) rfl dX4_append_43 ?_
        refine lv_iload_n hx hb dX4_append_46 rfl (lv_at hl 1 rfl) ?_
        obtain ⟨r2, er2, h⟩ := obind h
        refine call_M (va_runV (As := [.int a1]) (rest := []) ⟨hx, hb, hml, hown, hts⟩ (c_X0_add l z0 D t E ((x_length μ), (x_codes μ)) a1 _ H.size er2) (kV hts qw816 qw817 qw818 qw5 qw819 ok_X0_add ⟨Nat.le_of_ble_eq_true rfl, Nat.le_of_ble_eq_true rfl⟩) ⟨PM.blind, va_recv hK (sub_X_B (μ := μ) hP) (ci := 1) (q0 := 0) rfl rfl, fun U hU hW => ⟨rfl, by rw [hU]; exact (hC.at hS hZ).warm hW, by rw [hU], by rw [hU]; exact (sub_X_B (μ := μ) hP), ⟨(subD_X_B (μ := μ) hD).1, fun _ _ h9 => Or.inl (in_map (L := (BL E)) rfl h9)⟩, fun q hq => hZ q (OA.ofD (subD_X_B (μ := μ) hD) rfl hSz q hq)⟩⟩ rfl rfl hl.1 rfl (lv_room (Nat.le_of_ble_eq_true rfl)) dX4_append_47 ⟨Nat.le_of_ble_eq_true rfl, Nat.le_of_ble_eq_true rfl⟩) hS (OA.ofD (subD_X_B (μ := μ) hD) rfl hSz) (fun H locs hP1 hD1 hS _ hk1 => ?_)
        obtain ⟨hP, hD⟩ := back_X_B (μ := μ) hP hD hk1 hP1
        have hP : va_P D vwCl (XW x0 s0 s1 e0 E A u1 u2 B G T t (x_codes' (x_length' μ r2.1) r2.2)) H := hP
        have hD : va_D (OA (XL x0 s0 s1 e0 E A u1 u2 B G T) s.heap.size) (XW x0 s0 s1 e0 E A u1 u2 B G T t (x_codes' (x_length' μ r2.1) r2.2)) := hD
        have hSz : s.heap.size ≤ H.size := hS.1
        refine lv_aload_n hx hb dX4_append_50 rfl (lv_at hl 0 rfl) ?_
        refine va_get hx hb hts inX4 hown hK hP 0 rfl rfl 2 (by decide) (hts _ qw141) (fun _ h9 => h9) rfl dX4_append_51 ?_
        refine va_get hx hb hts inX0 hown hK hP 2 rfl rfl 0 (by decide) (hts _ qw69) (fun _ h9 => h9) rfl dX4_append_54 ?_
        obtain rfl := Sum.inl.inj (Option.some.inj h)
        exact W.iret hx hb hr (fun t ht hW => ⟨rfl, by rw [ht]; exact hP, hD, hS.F ht⟩) hS.2.2 dX4_append_57
      · have h := iteF hc h
        exact absurd (Option.some.inj h) (fun z => by cases z)
    · have h := iteF hc h
      exact absurd (Option.some.inj h) (fun z => by cases z)

abbrev rx_X4_append : Room := { frames := 6, cells := 1, slots := 6, locals := 120 }
set_option maxHeartbeats 4000000 in
set_option maxRecDepth 100000 in
theorem x_X4_append (l : Launch) (hl9 : l.stackTraces = false) (z0 : Nat) (D : va_G) (t : Nat → ClassId) (x0 : Nat) (s0 : Nat) (s1 : Nat) (e0 : Nat) (E : Nat → Nat) (A : Nat → Nat) (u1 : Nat) (u2 : Nat) (B : Nat → Nat) (G : Nat → Nat) (T : va_W) (μ : XS) (a1 : Int32) (E : String) (sz : Nat) (h : f_X4_append μ a1 = some (.inr E)) : vx_Met l yX4_append (ws_ yX4_append cX4_append 2 (some .int)) rx_X4_append (PM z0 D t [.ref (x0), .int a1] (XW x0 s0 s1 e0 E A u1 u2 B G T t μ) (XL x0 s0 s1 e0 E A u1 u2 B G T) sz) (fun _ _ _ _ => False) (XM E D (XW x0 s0 s1 e0 E A u1 u2 B G T t μ) (XL x0 s0 s1 e0 E A u1 u2 B G T) sz) 1 6 (OA (XL x0 s0 s1 e0 E A u1 u2 B G T) sz) := by
  refine vx_ofW (cc := cX4_append) (maxL := 2) (ret := (some .int)) (by decide) rfl ?_
  intro p e s m args below meth c s₁ Bo hml hT hv
  obtain ⟨rfl, hC, hsz, hP, hD, hZ⟩ := hv
  have hx := Bo.exec
  have hb := Bo.bytes
  have hr := Bo.returns
  have hts : ∀ w ∈ LA, w.before _ s = true := fun w hw => atoms_spec (ws := ws_ yX4_append cX4_append 2 (some .int)) Bo.pre w (List.mem_cons_of_mem _ hw)
  have hown : s.vm.findClass RX4 = some m.cls := findClass_of_methodNamed Bo.named
  have hlocks := Bo.notSynchronized
  have hK := hC.1
  subst hsz
  have hl := lv_entry ([.ref (x0), .int a1]) (n := 2) (Nat.le_of_ble_eq_true rfl)
  rw [lg_entry_eq]
  generalize (lg_sl ([.ref (x0), .int a1]) ++ List.replicate (2 - (lg_sl ([.ref (x0), .int a1])).length) Slot.unset).toArray = ls at hl ⊢
  have hl : lv_has ls 2 [(0, .ref (x0)), (1, .int a1)] := hl
  suffices K9 : ∀ (H : Heap) (locs : List Loc), va_P D vwCl (XW x0 s0 s1 e0 E A u1 u2 B G T t μ) H → va_S (OA (XL x0 s0 s1 e0 E A u1 u2 B G T) s.heap.size) s.heap H locs → W p l e (headSpec (ws_ yX4_append cX4_append 2 (some .int)) rx_X4_append).room s m ([.ref (x0), .int a1] : List Value).toArray below meth c H locs 0 0 (vx_MQ below (fun _ _ _ _ => False) (XM E D (XW x0 s0 s1 e0 E A u1 u2 B G T t μ) (XL x0 s0 s1 e0 E A u1 u2 B G T) s.heap.size) ([.ref (x0), .int a1] : List Value).toArray s 1 6 (OA (XL x0 s0 s1 e0 E A u1 u2 B G T) s.heap.size)) (F0 m 0 ls []) from K9 s.heap [] hP va_S.rf
  intro H locs hP hS
  have hSz : s.heap.size ≤ H.size := hS.1
  unfold f_X4_append at h
  refine lv_iload_n hx hb dX4_append_0 rfl (lv_at hl 1 rfl) ?_
  refine lv_bipush (v := (33)) hx hb dX4_append_1 (by decide) ?_
  refine lv_icmp_lt (tgt := 12) hx hb dX4_append_3 (by decide) (fun hc => ?_) (fun hc => ?_)
  · have h := iteT hc h
    obtain rfl := Sum.inr.inj (Option.some.inj h)
    obtain ⟨sa, hsa⟩ := hC.2.2.2.2.2.1 ("BentGardens", 175, "code is not 33 to 126") (by decide +kernel)
    refine vx_throwS hx hb hl9 hown (cls := "java/lang/IllegalArgumentException") (names := ["java/lang/RuntimeException", "java/lang/Exception"]) (by decide) (by decide) (hts _ qw412) (hts _ qw12) hsa (at_words hts hC.2.1 at_IllegalArgumentException) ato_IllegalArgumentException (hC.2.2.2.2.2.2.2.1.narrow hZ) (hC.2.2.2.2.2.2.2.2.1.narrow hZ) hS (hl.1.trans hml.symm) dX4_append_12 dX4_append_15 dX4_append_16 dX4_append_18 dX4_append_21 (fun x9 hx9 => (hT x9 hx9).elim) (Nat.le_of_ble_eq_true rfl) (Nat.le_of_ble_eq_true rfl) (Nat.le_of_ble_eq_true rfl) (Nat.le_of_ble_eq_true rfl) hlocks (fun t9 _ h8 h9 => XM.mk hP hD hS h8 h9) hS.2.2 (Nat.le_of_ble_eq_true rfl) (Nat.le_of_ble_eq_true rfl)
  · have h := iteF hc h
    refine lv_iload_n hx hb dX4_append_6 rfl (lv_at hl 1 rfl) ?_
    refine lv_bipush (v := (126)) hx hb dX4_append_7 (by decide) ?_
    refine lv_icmp_le (tgt := 22) hx hb dX4_append_9 (by decide) (fun hc => ?_) (fun hc => ?_)
    · have h := iteT hc h
      refine lv_aload_n hx hb dX4_append_22 rfl (lv_at hl 0 rfl) ?_
      refine va_get hx hb hts inX4 hown hK hP 0 rfl rfl 2 (by decide) (hts _ qw141) (fun _ h9 => h9) rfl dX4_append_23 ?_
      obtain ⟨r1, er1, h⟩ := obind h
      refine call_R (va_runV (As := []) (rest := []) ⟨hx, hb, hml, hown, hts⟩ (c_X0_isFull l z0 D t E ((x_length μ), (x_codes μ)) _ er1) (kV hts qw811 qw812 qw813 qw5 qw814 ok_X0_isFull ⟨Nat.le_of_ble_eq_true rfl, Nat.le_of_ble_eq_true rfl⟩) ⟨PR.blind, va_recv hK (sub_X_B (μ := μ) hP) (ci := 1) (q0 := 0) rfl rfl, fun U hU hW => ⟨rfl, by rw [hU]; exact (hC.at hS hZ).warm hW, by rw [hU]; exact (sub_X_B (μ := μ) hP)⟩⟩ rfl rfl hl.1 rfl (lv_room (Nat.le_of_ble_eq_true rfl)) dX4_append_26 ⟨Nat.le_of_ble_eq_true rfl, Nat.le_of_ble_eq_true rfl⟩) ?_
      refine lv_if_eq (tgt := 42) hx hb dX4_append_29 (by decide) (fun hc => ?_) (fun hc => ?_)
      · have h := iteT hc h
        refine lv_aload_n hx hb dX4_append_42 rfl (lv_at hl 0 rfl) ?_
        refine va_get hx hb hts inX4 hown hK hP 0 rfl rfl 2 (by decide) (hts _ qw141) (fun _ h9 => h9) rfl dX4_append_43 ?_
        refine lv_iload_n hx hb dX4_append_46 rfl (lv_at hl 1 rfl) ?_
        obtain ⟨r2, er2, h⟩ := obind h
        refine call_M (va_runV (As := [.int a1]) (rest := []) ⟨hx, hb, hml, hown, hts⟩ (c_X0_add l z0 D t E ((x_length μ), (x_codes μ)) a1 _ H.size er2) (kV hts qw816 qw817 qw818 qw5 qw819 ok_X0_add ⟨Nat.le_of_ble_eq_true rfl, Nat.le_of_ble_eq_true rfl⟩) ⟨PM.blind, va_recv hK (sub_X_B (μ := μ) hP) (ci := 1) (q0 := 0) rfl rfl, fun U hU hW => ⟨rfl, by rw [hU]; exact (hC.at hS hZ).warm hW, by rw [hU], by rw [hU]; exact (sub_X_B (μ := μ) hP), ⟨(subD_X_B (μ := μ) hD).1, fun _ _ h9 => Or.inl (in_map (L := (BL E)) rfl h9)⟩, fun q hq => hZ q (OA.ofD (subD_X_B (μ := μ) hD) rfl hSz q hq)⟩⟩ rfl rfl hl.1 rfl (lv_room (Nat.le_of_ble_eq_true rfl)) dX4_append_47 ⟨Nat.le_of_ble_eq_true rfl, Nat.le_of_ble_eq_true rfl⟩) hS (OA.ofD (subD_X_B (μ := μ) hD) rfl hSz) (fun H locs hP1 hD1 hS _ hk1 => ?_)
        obtain ⟨hP, hD⟩ := back_X_B (μ := μ) hP hD hk1 hP1
        have hP : va_P D vwCl (XW x0 s0 s1 e0 E A u1 u2 B G T t (x_codes' (x_length' μ r2.1) r2.2)) H := hP
        have hD : va_D (OA (XL x0 s0 s1 e0 E A u1 u2 B G T) s.heap.size) (XW x0 s0 s1 e0 E A u1 u2 B G T t (x_codes' (x_length' μ r2.1) r2.2)) := hD
        have hSz : s.heap.size ≤ H.size := hS.1
        refine lv_aload_n hx hb dX4_append_50 rfl (lv_at hl 0 rfl) ?_
        refine va_get hx hb hts inX4 hown hK hP 0 rfl rfl 2 (by decide) (hts _ qw141) (fun _ h9 => h9) rfl dX4_append_51 ?_
        refine va_get hx hb hts inX0 hown hK hP 2 rfl rfl 0 (by decide) (hts _ qw69) (fun _ h9 => h9) rfl dX4_append_54 ?_
        exact absurd (Option.some.inj h) (fun z => by cases z)
      · have h := iteF hc h
        obtain rfl := Sum.inr.inj (Option.some.inj h)
        obtain ⟨sa, hsa⟩ := hC.2.2.2.2.2.1 ("BentGardens", 180, "the buffer is full") (by decide +kernel)
        refine vx_throwS hx hb hl9 hown (cls := "java/lang/IllegalStateException") (names := ["java/lang/RuntimeException", "java/lang/Exception"]) (by decide) (by decide) (hts _ qw699) (hts _ qw20) hsa (at_words hts hC.2.1 at_IllegalStateException) ato_IllegalStateException (hC.2.2.2.2.2.2.2.1.narrow hZ) (hC.2.2.2.2.2.2.2.2.1.narrow hZ) hS (hl.1.trans hml.symm) dX4_append_32 dX4_append_35 dX4_append_36 dX4_append_38 dX4_append_41 (fun x9 hx9 => (hT x9 hx9).elim) (Nat.le_of_ble_eq_true rfl) (Nat.le_of_ble_eq_true rfl) (Nat.le_of_ble_eq_true rfl) (Nat.le_of_ble_eq_true rfl) hlocks (fun t9 _ h8 h9 => XM.mk hP hD hS h8 h9) hS.2.2 (Nat.le_of_ble_eq_true rfl) (Nat.le_of_ble_eq_true rfl)
    · have h := iteF hc h
      obtain rfl := Sum.inr.inj (Option.some.inj h)
      obtain ⟨sa, hsa⟩ := hC.2.2.2.2.2.1 ("BentGardens", 175, "code is not 33 to 126") (by decide +kernel)
      refine vx_throwS hx hb hl9 hown (cls := "java/lang/IllegalArgumentException") (names := ["java/lang/RuntimeException", "java/lang/Exception"]) (by decide) (by decide) (hts _ qw412) (hts _ qw12) hsa (at_words hts hC.2.1 at_IllegalArgumentException) ato_IllegalArgumentException (hC.2.2.2.2.2.2.2.1.narrow hZ) (hC.2.2.2.2.2.2.2.2.1.narrow hZ) hS (hl.1.trans hml.symm) dX4_append_12 dX4_append_15 dX4_append_16 dX4_append_18 dX4_append_21 (fun x9 hx9 => (hT x9 hx9).elim) (Nat.le_of_ble_eq_true rfl) (Nat.le_of_ble_eq_true rfl) (Nat.le_of_ble_eq_true rfl) (Nat.le_of_ble_eq_true rfl) hlocks (fun t9 _ h8 h9 => XM.mk hP hD hS h8 h9) hS.2.2 (Nat.le_of_ble_eq_true rfl) (Nat.le_of_ble_eq_true rfl)

abbrev rm_X4_requireSlot : Room := { frames := 6, cells := 0, slots := 0, locals := 120 }
theorem ok_X4_requireSlot : okY yX4_requireSlot 1 := ⟨by decide +kernel, by decide +kernel, by decide +kernel⟩
set_option maxHeartbeats 4000000 in
set_option maxRecDepth 100000 in
theorem c_X4_requireSlot (l : Launch) (z0 : Nat) (D : va_G) (t : Nat → ClassId) (x0 : Nat) (s0 : Nat) (s1 : Nat) (e0 : Nat) (E : Nat → Nat) (A : Nat → Nat) (u1 : Nat) (u2 : Nat) (B : Nat → Nat) (G : Nat → Nat) (T : va_W) (μ : XS) (a1 : Int32) (res : Unit) (h : f_X4_requireSlot μ a1 = some (.inl res)) : Met l yX4_requireSlot (ws_ yX4_requireSlot cX4_requireSlot 2 none) rm_X4_requireSlot (PR z0 D t [.ref (x0), .int a1] (XW x0 s0 s1 e0 E A u1 u2 B G T t μ)) (QR none) 0 0 FN := by
  refine Met.ofW (cc := cX4_requireSlot) (maxL := 2) (ret := none) (by decide) rfl ?_
  intro p e s m args below meth c s₁ Bo hml hv
  obtain ⟨rfl, hC, hP⟩ := hv
  have hx := Bo.exec
  have hb := Bo.bytes
  have hr := Bo.returns
  have hts : ∀ w ∈ LA, w.before _ s = true := fun w hw => atoms_spec (ws := ws_ yX4_requireSlot cX4_requireSlot 2 none) Bo.pre w (List.mem_cons_of_mem _ hw)
  have hown : s.vm.findClass RX4 = some m.cls := findClass_of_methodNamed Bo.named
  have hlocks := Bo.notSynchronized
  have hK := hC.1
  have hl := lv_entry ([.ref (x0), .int a1]) (n := 2) (Nat.le_of_ble_eq_true rfl)
  rw [lg_entry_eq]
  generalize (lg_sl ([.ref (x0), .int a1]) ++ List.replicate (2 - (lg_sl ([.ref (x0), .int a1])).length) Slot.unset).toArray = ls at hl ⊢
  have hl : lv_has ls 2 [(0, .ref (x0)), (1, .int a1)] := hl
  unfold f_X4_requireSlot at h
  refine lv_iload_n hx hb dX4_requireSlot_0 rfl (lv_at hl 1 rfl) ?_
  refine lv_if_lt (tgt := 13) hx hb dX4_requireSlot_1 (by decide) (fun hc => ?_) (fun hc => ?_)
  · have h := iteT hc h
    exact absurd (Option.some.inj h) (fun z => by cases z)
  · have h := iteF hc h
    refine lv_iload_n hx hb dX4_requireSlot_4 rfl (lv_at hl 1 rfl) ?_
    refine lv_aload_n hx hb dX4_requireSlot_5 rfl (lv_at hl 0 rfl) ?_
    refine va_get hx hb hts inX4 hown hK hP 0 rfl rfl 1 (by decide) (hts _ qw140) (fun _ h9 => h9) rfl dX4_requireSlot_6 ?_
    refine va_alen hx hb hK hP 1 3 rfl rfl (v := 2) rfl dX4_requireSlot_9 ?_
    refine lv_icmp_lt (tgt := 24) hx hb dX4_requireSlot_10 (by decide) (fun hc => ?_) (fun hc => ?_)
    · have h := iteT hc h
      obtain rfl := Sum.inl.inj (Option.some.inj h)
      exact W.vret hx hb hr (fun t ht hW => ⟨rfl, ht⟩) (fun q hq => absurd hq List.not_mem_nil) dX4_requireSlot_24
    · have h := iteF hc h
      exact absurd (Option.some.inj h) (fun z => by cases z)

abbrev rx_X4_requireSlot : Room := { frames := 6, cells := 1, slots := 6, locals := 120 }
set_option maxHeartbeats 4000000 in
set_option maxRecDepth 100000 in
theorem x_X4_requireSlot (l : Launch) (hl9 : l.stackTraces = false) (z0 : Nat) (D : va_G) (t : Nat → ClassId) (x0 : Nat) (s0 : Nat) (s1 : Nat) (e0 : Nat) (E : Nat → Nat) (A : Nat → Nat) (u1 : Nat) (u2 : Nat) (B : Nat → Nat) (G : Nat → Nat) (T : va_W) (μ : XS) (a1 : Int32) (E : String) (sz : Nat) (h : f_X4_requireSlot μ a1 = some (.inr E)) : vx_Met l yX4_requireSlot (ws_ yX4_requireSlot cX4_requireSlot 2 none) rx_X4_requireSlot (PM z0 D t [.ref (x0), .int a1] (XW x0 s0 s1 e0 E A u1 u2 B G T t μ) (XL x0 s0 s1 e0 E A u1 u2 B G T) sz) (fun _ _ _ _ => False) (XM E D (XW x0 s0 s1 e0 E A u1 u2 B G T t μ) (XL x0 s0 s1 e0 E A u1 u2 B G T) sz) 1 6 (OA (XL x0 s0 s1 e0 E A u1 u2 B G T) sz) := by
  refine vx_ofW (cc := cX4_requireSlot) (maxL := 2) (ret := none) (by decide) rfl ?_
  intro p e s m args below meth c s₁ Bo hml hT hv
  obtain ⟨rfl, hC, hsz, hP, hD, hZ⟩ := hv
  have hx := Bo.exec
  have hb := Bo.bytes
  have hr := Bo.returns
  have hts : ∀ w ∈ LA, w.before _ s = true := fun w hw => atoms_spec (ws := ws_ yX4_requireSlot cX4_requireSlot 2 none) Bo.pre w (List.mem_cons_of_mem _ hw)
  have hown : s.vm.findClass RX4 = some m.cls := findClass_of_methodNamed Bo.named
  have hlocks := Bo.notSynchronized
  have hK := hC.1
  subst hsz
  have hl := lv_entry ([.ref (x0), .int a1]) (n := 2) (Nat.le_of_ble_eq_true rfl)
  rw [lg_entry_eq]
  generalize (lg_sl ([.ref (x0), .int a1]) ++ List.replicate (2 - (lg_sl ([.ref (x0), .int a1])).length) Slot.unset).toArray = ls at hl ⊢
  have hl : lv_has ls 2 [(0, .ref (x0)), (1, .int a1)] := hl
  suffices K9 : ∀ (H : Heap) (locs : List Loc), va_P D vwCl (XW x0 s0 s1 e0 E A u1 u2 B G T t μ) H → va_S (OA (XL x0 s0 s1 e0 E A u1 u2 B G T) s.heap.size) s.heap H locs → W p l e (headSpec (ws_ yX4_requireSlot cX4_requireSlot 2 none) rx_X4_requireSlot).room s m ([.ref (x0), .int a1] : List Value).toArray below meth c H locs 0 0 (vx_MQ below (fun _ _ _ _ => False) (XM E D (XW x0 s0 s1 e0 E A u1 u2 B G T t μ) (XL x0 s0 s1 e0 E A u1 u2 B G T) s.heap.size) ([.ref (x0), .int a1] : List Value).toArray s 1 6 (OA (XL x0 s0 s1 e0 E A u1 u2 B G T) s.heap.size)) (F0 m 0 ls []) from K9 s.heap [] hP va_S.rf
  intro H locs hP hS
  have hSz : s.heap.size ≤ H.size := hS.1
  unfold f_X4_requireSlot at h
  refine lv_iload_n hx hb dX4_requireSlot_0 rfl (lv_at hl 1 rfl) ?_
  refine lv_if_lt (tgt := 13) hx hb dX4_requireSlot_1 (by decide) (fun hc => ?_) (fun hc => ?_)
  · have h := iteT hc h
    obtain rfl := Sum.inr.inj (Option.some.inj h)
    obtain ⟨sa, hsa⟩ := hC.2.2.2.2.2.1 ("BentGardens", 359, "slot is not 0 or 1") (by decide +kernel)
    refine vx_throwSW hx hb hl9 hown (cls := "java/lang/IllegalArgumentException") (names := ["java/lang/RuntimeException", "java/lang/Exception"]) (by decide) (by decide) (hts _ qw412) (hts _ qw12) hsa (at_words hts hC.2.1 at_IllegalArgumentException) ato_IllegalArgumentException (hC.2.2.2.2.2.2.2.1.narrow hZ) (hC.2.2.2.2.2.2.2.2.1.narrow hZ) hS (hl.1.trans hml.symm) dX4_requireSlot_13 dX4_requireSlot_16 dX4_requireSlot_17 dX4_requireSlot_20 dX4_requireSlot_23 (fun x9 hx9 => (hT x9 hx9).elim) (Nat.le_of_ble_eq_true rfl) (Nat.le_of_ble_eq_true rfl) (Nat.le_of_ble_eq_true rfl) (Nat.le_of_ble_eq_true rfl) hlocks (fun t9 _ h8 h9 => XM.mk hP hD hS h8 h9) hS.2.2 (Nat.le_of_ble_eq_true rfl) (Nat.le_of_ble_eq_true rfl)
  · have h := iteF hc h
    refine lv_iload_n hx hb dX4_requireSlot_4 rfl (lv_at hl 1 rfl) ?_
    refine lv_aload_n hx hb dX4_requireSlot_5 rfl (lv_at hl 0 rfl) ?_
    refine va_get hx hb hts inX4 hown hK hP 0 rfl rfl 1 (by decide) (hts _ qw140) (fun _ h9 => h9) rfl dX4_requireSlot_6 ?_
    refine va_alen hx hb hK hP 1 3 rfl rfl (v := 2) rfl dX4_requireSlot_9 ?_
    refine lv_icmp_lt (tgt := 24) hx hb dX4_requireSlot_10 (by decide) (fun hc => ?_) (fun hc => ?_)
    · have h := iteT hc h
      exact absurd (Option.some.inj h) (fun z => by cases z)
    · have h := iteF hc h
      obtain rfl := Sum.inr.inj (Option.some.inj h)
      obtain ⟨sa, hsa⟩ := hC.2.2.2.2.2.1 ("BentGardens", 359, "slot is not 0 or 1") (by decide +kernel)
      refine vx_throwSW hx hb hl9 hown (cls := "java/lang/IllegalArgumentException") (names := ["java/lang/RuntimeException", "java/lang/Exception"]) (by decide) (by decide) (hts _ qw412) (hts _ qw12) hsa (at_words hts hC.2.1 at_IllegalArgumentException) ato_IllegalArgumentException (hC.2.2.2.2.2.2.2.1.narrow hZ) (hC.2.2.2.2.2.2.2.2.1.narrow hZ) hS (hl.1.trans hml.symm) dX4_requireSlot_13 dX4_requireSlot_16 dX4_requireSlot_17 dX4_requireSlot_20 dX4_requireSlot_23 (fun x9 hx9 => (hT x9 hx9).elim) (Nat.le_of_ble_eq_true rfl) (Nat.le_of_ble_eq_true rfl) (Nat.le_of_ble_eq_true rfl) (Nat.le_of_ble_eq_true rfl) hlocks (fun t9 _ h8 h9 => XM.mk hP hD hS h8 h9) hS.2.2 (Nat.le_of_ble_eq_true rfl) (Nat.le_of_ble_eq_true rfl)

abbrev rm_X4_whyNot : Room := { frames := 7, cells := 0, slots := 0, locals := 140 }
theorem ok_X4_whyNot : okY yX4_whyNot 3 := ⟨by decide +kernel, by decide +kernel, by decide +kernel⟩
set_option maxHeartbeats 4000000 in
set_option maxRecDepth 100000 in
theorem c_X4_whyNot (l : Launch) (z0 : Nat) (D : va_G) (t : Nat → ClassId) (x0 : Nat) (s0 : Nat) (s1 : Nat) (e0 : Nat) (E : Nat → Nat) (A : Nat → Nat) (u1 : Nat) (u2 : Nat) (B : Nat → Nat) (G : Nat → Nat) (T : va_W) (μ : XS) (a1 : Int32) (a2 : Int32) (a3 : Int32) (res : Int32) (h : f_X4_whyNot μ a1 a2 a3 = some (.inl res)) : Met l yX4_whyNot (ws_ yX4_whyNot cX4_whyNot 4 (some .int)) rm_X4_whyNot (PR z0 D t [.ref (x0), .int a1, .int a2, .int a3] (XW x0 s0 s1 e0 E A u1 u2 B G T t μ)) (QR (some (.int res))) 0 0 FN := by
  refine Met.ofW (cc := cX4_whyNot) (maxL := 4) (ret := (some .int)) (by decide) rfl ?_
  intro p e s m args below meth c s₁ Bo hml hv
  obtain ⟨rfl, hC, hP⟩ := hv
  have hx := Bo.exec
  have hb := Bo.bytes
  have hr := Bo.returns
  have hts : ∀ w ∈ LA, w.before _ s = true := fun w hw => atoms_spec (ws := ws_ yX4_whyNot cX4_whyNot 4 (some .int)) Bo.pre w (List.mem_cons_of_mem _ hw)
  have hown : s.vm.findClass RX4 = some m.cls := findClass_of_methodNamed Bo.named
  have hlocks := Bo.notSynchronized
  have hK := hC.1
  have hl := lv_entry ([.ref (x0), .int a1, .int a2, .int a3]) (n := 4) (Nat.le_of_ble_eq_true rfl)
  rw [lg_entry_eq]
  generalize (lg_sl ([.ref (x0), .int a1, .int a2, .int a3]) ++ List.replicate (4 - (lg_sl ([.ref (x0), .int a1, .int a2, .int a3])).length) Slot.unset).toArray = ls at hl ⊢
  have hl : lv_has ls 4 [(0, .ref (x0)), (1, .int a1), (2, .int a2), (3, .int a3)] := hl
  unfold f_X4_whyNot at h
  refine lv_iload_n hx hb dX4_whyNot_0 rfl (lv_at hl 3 rfl) ?_
  obtain ⟨r1o, er1, h⟩ := obind h
  rcases r1o with r1 | Er1
  · replace h := sumL h
    refine call_R (va_runS (As := [.int a3]) (rest := []) ⟨hx, hb, hml, hown, hts⟩ (c_X4_requireTurn l z0 D t a3 _ er1) (kS hts qw555 qw556 qw1 qw557 ok_X4_requireTurn ⟨Nat.le_of_ble_eq_true rfl, Nat.le_of_ble_eq_true rfl⟩) ⟨PR.blind, fun U hU hW => ⟨rfl, by rw [hU]; exact hC.warm hW, by rw [hU]; exact va_P_nil⟩⟩ rfl rfl hl.1 rfl (lv_room (Nat.le_of_ble_eq_true rfl)) dX4_whyNot_1 ⟨Nat.le_of_ble_eq_true rfl, Nat.le_of_ble_eq_true rfl⟩) ?_
    refine lv_aload_n hx hb dX4_whyNot_4 rfl (lv_at hl 0 rfl) ?_
    refine va_get hx hb hts inX4 hown hK hP 0 rfl rfl 4 (by decide) (hts _ qw143) (fun _ h9 => h9) rfl dX4_whyNot_5 ?_
    refine lv_iload_n hx hb dX4_whyNot_8 rfl (lv_at hl 1 rfl) ?_
    refine lv_iload_n hx hb dX4_whyNot_9 rfl (lv_at hl 2 rfl) ?_
    refine lv_iload_n hx hb dX4_whyNot_10 rfl (lv_at hl 3 rfl) ?_
    obtain ⟨r2, er2, h⟩ := obind h
    refine call_R (va_runV (As := [.int a1, .int a2, .int a3]) (rest := []) ⟨hx, hb, hml, hown, hts⟩ (c_X1_whyRefused l z0 D t G ((x_wide μ), (x_high μ), (x_pond μ), (x_walls μ), (x_paved μ), (x_tc μ), (x_flips μ), (x_refused μ), (x_names μ)) a1 a2 a3 _ er2) (kV hts qw559 qw321 qw322 qw7 qw323 ok_X1_whyRefused ⟨Nat.le_of_ble_eq_true rfl, Nat.le_of_ble_eq_true rfl⟩) ⟨PR.blind, va_recv hK (sub_X_G (μ := μ) hP) (ci := 2) (q0 := 0) rfl rfl, fun U hU hW => ⟨rfl, by rw [hU]; exact hC.warm hW, by rw [hU]; exact (sub_X_G (μ := μ) hP)⟩⟩ rfl rfl hl.1 rfl (lv_room (Nat.le_of_ble_eq_true rfl)) dX4_whyNot_11 ⟨Nat.le_of_ble_eq_true rfl, Nat.le_of_ble_eq_true rfl⟩) ?_
    obtain rfl := Sum.inl.inj (Option.some.inj h)
    exact W.iret hx hb hr (fun t ht hW => ⟨rfl, ht⟩) (fun q hq => absurd hq List.not_mem_nil) dX4_whyNot_14
  · replace h := sumR h
    exact absurd (Option.some.inj h) (fun z => by cases z)

abbrev rx_X4_whyNot : Room := { frames := 7, cells := 1, slots := 6, locals := 140 }
set_option maxHeartbeats 4000000 in
set_option maxRecDepth 100000 in
theorem x_X4_whyNot (l : Launch) (hl9 : l.stackTraces = false) (z0 : Nat) (D : va_G) (t : Nat → ClassId) (x0 : Nat) (s0 : Nat) (s1 : Nat) (e0 : Nat) (E : Nat → Nat) (A : Nat → Nat) (u1 : Nat) (u2 : Nat) (B : Nat → Nat) (G : Nat → Nat) (T : va_W) (μ : XS) (a1 : Int32) (a2 : Int32) (a3 : Int32) (E : String) (sz : Nat) (h : f_X4_whyNot μ a1 a2 a3 = some (.inr E)) : vx_Met l yX4_whyNot (ws_ yX4_whyNot cX4_whyNot 4 (some .int)) rx_X4_whyNot (PM z0 D t [.ref (x0), .int a1, .int a2, .int a3] (XW x0 s0 s1 e0 E A u1 u2 B G T t μ) (XL x0 s0 s1 e0 E A u1 u2 B G T) sz) (fun _ _ _ _ => False) (XM E D (XW x0 s0 s1 e0 E A u1 u2 B G T t μ) (XL x0 s0 s1 e0 E A u1 u2 B G T) sz) 1 6 (OA (XL x0 s0 s1 e0 E A u1 u2 B G T) sz) := by
  refine vx_ofW (cc := cX4_whyNot) (maxL := 4) (ret := (some .int)) (by decide) rfl ?_
  intro p e s m args below meth c s₁ Bo hml hT hv
  obtain ⟨rfl, hC, hsz, hP, hD, hZ⟩ := hv
  have hx := Bo.exec
  have hb := Bo.bytes
  have hr := Bo.returns
  have hts : ∀ w ∈ LA, w.before _ s = true := fun w hw => atoms_spec (ws := ws_ yX4_whyNot cX4_whyNot 4 (some .int)) Bo.pre w (List.mem_cons_of_mem _ hw)
  have hown : s.vm.findClass RX4 = some m.cls := findClass_of_methodNamed Bo.named
  have hlocks := Bo.notSynchronized
  have hK := hC.1
  subst hsz
  have hl := lv_entry ([.ref (x0), .int a1, .int a2, .int a3]) (n := 4) (Nat.le_of_ble_eq_true rfl)
  rw [lg_entry_eq]
  generalize (lg_sl ([.ref (x0), .int a1, .int a2, .int a3]) ++ List.replicate (4 - (lg_sl ([.ref (x0), .int a1, .int a2, .int a3])).length) Slot.unset).toArray = ls at hl ⊢
  have hl : lv_has ls 4 [(0, .ref (x0)), (1, .int a1), (2, .int a2), (3, .int a3)] := hl
  suffices K9 : ∀ (H : Heap) (locs : List Loc), va_P D vwCl (XW x0 s0 s1 e0 E A u1 u2 B G T t μ) H → va_S (OA (XL x0 s0 s1 e0 E A u1 u2 B G T) s.heap.size) s.heap H locs → W p l e (headSpec (ws_ yX4_whyNot cX4_whyNot 4 (some .int)) rx_X4_whyNot).room s m ([.ref (x0), .int a1, .int a2, .int a3] : List Value).toArray below meth c H locs 0 0 (vx_MQ below (fun _ _ _ _ => False) (XM E D (XW x0 s0 s1 e0 E A u1 u2 B G T t μ) (XL x0 s0 s1 e0 E A u1 u2 B G T) s.heap.size) ([.ref (x0), .int a1, .int a2, .int a3] : List Value).toArray s 1 6 (OA (XL x0 s0 s1 e0 E A u1 u2 B G T) s.heap.size)) (F0 m 0 ls []) from K9 s.heap [] hP va_S.rf
  intro H locs hP hS
  have hSz : s.heap.size ≤ H.size := hS.1
  unfold f_X4_whyNot at h
  refine lv_iload_n hx hb dX4_whyNot_0 rfl (lv_at hl 3 rfl) ?_
  obtain ⟨r1o, er1, h⟩ := obind h
  rcases r1o with r1 | Er1
  · replace h := sumL h
    refine call_R (va_runS (As := [.int a3]) (rest := []) ⟨hx, hb, hml, hown, hts⟩ (c_X4_requireTurn l z0 D t a3 _ er1) (kS hts qw555 qw556 qw1 qw557 ok_X4_requireTurn ⟨Nat.le_of_ble_eq_true rfl, Nat.le_of_ble_eq_true rfl⟩) ⟨PR.blind, fun U hU hW => ⟨rfl, by rw [hU]; exact (hC.at hS hZ).warm hW, by rw [hU]; exact va_P_nil⟩⟩ rfl rfl hl.1 rfl (lv_room (Nat.le_of_ble_eq_true rfl)) dX4_whyNot_1 ⟨Nat.le_of_ble_eq_true rfl, Nat.le_of_ble_eq_true rfl⟩) ?_
    refine lv_aload_n hx hb dX4_whyNot_4 rfl (lv_at hl 0 rfl) ?_
    refine va_get hx hb hts inX4 hown hK hP 0 rfl rfl 4 (by decide) (hts _ qw143) (fun _ h9 => h9) rfl dX4_whyNot_5 ?_
    refine lv_iload_n hx hb dX4_whyNot_8 rfl (lv_at hl 1 rfl) ?_
    refine lv_iload_n hx hb dX4_whyNot_9 rfl (lv_at hl 2 rfl) ?_
    refine lv_iload_n hx hb dX4_whyNot_10 rfl (lv_at hl 3 rfl) ?_
    obtain ⟨r2, er2, h⟩ := obind h
    refine call_R (va_runV (As := [.int a1, .int a2, .int a3]) (rest := []) ⟨hx, hb, hml, hown, hts⟩ (c_X1_whyRefused l z0 D t G ((x_wide μ), (x_high μ), (x_pond μ), (x_walls μ), (x_paved μ), (x_tc μ), (x_flips μ), (x_refused μ), (x_names μ)) a1 a2 a3 _ er2) (kV hts qw559 qw321 qw322 qw7 qw323 ok_X1_whyRefused ⟨Nat.le_of_ble_eq_true rfl, Nat.le_of_ble_eq_true rfl⟩) ⟨PR.blind, va_recv hK (sub_X_G (μ := μ) hP) (ci := 2) (q0 := 0) rfl rfl, fun U hU hW => ⟨rfl, by rw [hU]; exact (hC.at hS hZ).warm hW, by rw [hU]; exact (sub_X_G (μ := μ) hP)⟩⟩ rfl rfl hl.1 rfl (lv_room (Nat.le_of_ble_eq_true rfl)) dX4_whyNot_11 ⟨Nat.le_of_ble_eq_true rfl, Nat.le_of_ble_eq_true rfl⟩) ?_
    exact absurd (Option.some.inj h) (fun z => by cases z)
  · replace h := sumR h
    obtain rfl := Sum.inr.inj (Option.some.inj h)
    refine call_X (vx_runS (As := [.int a3]) (rest := []) ⟨hx, hb, hml, hown, hts⟩ (x_X4_requireTurn l hl9 z0 D t a3 _ H.size er1) (kS hts qw555 qw556 qw1 qw557 ok_X4_requireTurn ⟨Nat.le_of_ble_eq_true rfl, Nat.le_of_ble_eq_true rfl⟩) ⟨PM.blind, fun U hU hW => ⟨rfl, by rw [hU]; exact (hC.at hS hZ).warm hW, by rw [hU], by rw [hU]; exact va_P_nil, ⟨(va_D_nil (A := OA [] s.heap.size)).1, fun _ _ h9 => Or.inl (in_map (L := []) rfl h9)⟩, fun q hq => hZ q (OA.nil hSz q hq)⟩⟩ rfl rfl hl.1 rfl (lv_room (Nat.le_of_ble_eq_true rfl)) dX4_whyNot_1 ⟨Nat.le_of_ble_eq_true rfl, Nat.le_of_ble_eq_true rfl⟩) hS (OA.nil hSz) (fun H locs q9 ce9 hP1 hD1 hS hsz1 hk1 hce hcv hcc => ?_)
    have hP : va_P D vwCl (XW x0 s0 s1 e0 E A u1 u2 B G T t μ) H := va_P.keptN hP hk1
    exact vx_out (fun x9 hx9 => (hT x9 hx9).elim) hlocks hce hcv hcc (fun t9 h8 _ => XM.mk2 hP hD hS h8) hS.2.2 (Nat.le_of_ble_eq_true rfl) (Nat.le_of_ble_eq_true rfl)
