abbrev rm_X1_isFlippable : Room := { frames := 3, cells := 0, slots := 0, locals := 85 }
theorem ok_X1_isFlippable : okY yX1_isFlippable 3 := ⟨by decide +kernel, by decide +kernel, by decide +kernel⟩
set_option maxHeartbeats 4000000 in
set_option maxRecDepth 100000 in
theorem c_X1_isFlippable (l : Launch) (z0 : Nat) (D : va_G) (t : Nat → ClassId) (G : Nat → Nat) (μ : GS) (a1 : Int32) (a2 : Int32) (a3 : Int32) (res : Int32) (h : f_X1_isFlippable μ a1 a2 a3 = some res) : Met l yX1_isFlippable (ws_ yX1_isFlippable cX1_isFlippable 8 (some .boolean)) rm_X1_isFlippable (PR z0 D t [.ref (G 0), .int a1, .int a2, .int a3] (GW G t μ)) (QR (some (.int res))) 0 0 FN := by
  refine Met.ofW (cc := cX1_isFlippable) (maxL := 8) (ret := (some .boolean)) (by decide) rfl ?_
  intro p e s m args below meth c s₁ Bo hml hv
  obtain ⟨rfl, hC, hP⟩ := hv
  have hx := Bo.exec
  have hb := Bo.bytes
  have hr := Bo.returns
  have hts : ∀ w ∈ LA, w.before _ s = true := fun w hw => atoms_spec (ws := ws_ yX1_isFlippable cX1_isFlippable 8 (some .boolean)) Bo.pre w (List.mem_cons_of_mem _ hw)
  have hown : s.vm.findClass RX1 = some m.cls := findClass_of_methodNamed Bo.named
  have hlocks := Bo.notSynchronized
  have hK := hC.1
  have hl := lv_entry ([.ref (G 0), .int a1, .int a2, .int a3]) (n := 8) (Nat.le_of_ble_eq_true rfl)
  rw [lg_entry_eq]
  generalize (lg_sl ([.ref (G 0), .int a1, .int a2, .int a3]) ++ List.replicate (8 - (lg_sl ([.ref (G 0), .int a1, .int a2, .int a3])).length) Slot.unset).toArray = ls at hl ⊢
  have hl : lv_has ls 8 [(0, .ref (G 0)), (1, .int a1), (2, .int a2), (3, .int a3)] := hl
  unfold f_X1_isFlippable at h
  refine lv_aload_n hx hb dX1_isFlippable_0 rfl (lv_at hl 0 rfl) ?_
  refine lv_iload_n hx hb dX1_isFlippable_1 rfl (lv_at hl 1 rfl) ?_
  refine lv_iload_n hx hb dX1_isFlippable_2 rfl (lv_at hl 2 rfl) ?_
  obtain ⟨r1, er1, h⟩ := obind h
  refine call_R (va_runSN (As := [.int a1, .int a2]) (rest := [.ref (G 0)]) ⟨hx, hb, hml, hown, hts⟩ (c_X4_cellAt l z0 D t a1 a2 _ er1) ⟨kN hts (hC.2.1 _ qw678) qw1 qw230 ok_X4_cellAt ⟨Nat.le_of_ble_eq_true rfl, Nat.le_of_ble_eq_true rfl⟩, hts _ qw229, trivial⟩ ⟨PR.blind, fun U hU hW => ⟨rfl, by rw [hU]; exact hC.warm hW, by rw [hU]; exact va_P_nil⟩⟩ rfl rfl hl.1 rfl (lv_room (Nat.le_of_ble_eq_true rfl)) dX1_isFlippable_3 ⟨Nat.le_of_ble_eq_true rfl, Nat.le_of_ble_eq_true rfl⟩) ?_
  obtain ⟨r2, er2, h⟩ := obind h
  refine call_R (va_runV (As := [.long r1]) (rest := []) ⟨hx, hb, hml, hown, hts⟩ (c_X1_tripleOver l z0 D t G μ r1 _ er2) (kV hts qw679 qw637 qw638 qw8 qw639 ok_X1_tripleOver ⟨Nat.le_of_ble_eq_true rfl, Nat.le_of_ble_eq_true rfl⟩) ⟨PR.blind, va_recv hK hP (ci := 2) (q0 := 0) rfl rfl, fun U hU hW => ⟨rfl, by rw [hU]; exact hC.warm hW, by rw [hU]; exact hP⟩⟩ rfl rfl hl.1 rfl (lv_room (Nat.le_of_ble_eq_true rfl)) dX1_isFlippable_6 ⟨Nat.le_of_ble_eq_true rfl, Nat.le_of_ble_eq_true rfl⟩) ?_
  refine lv_istore (lv' := [(4, .int r2), (0, .ref (G 0)), (1, .int a1), (2, .int a2), (3, .int a3)]) hx hb dX1_isFlippable_9 hl (by decide) rfl (fun ls hl => ?_)
  refine lv_aload_n hx hb dX1_isFlippable_11 rfl (lv_at hl 1 rfl) ?_
  refine lv_iload_n hx hb dX1_isFlippable_12 rfl (lv_at hl 2 rfl) ?_
  refine lv_iload_n hx hb dX1_isFlippable_13 rfl (lv_at hl 3 rfl) ?_
  refine lv_iload_n hx hb dX1_isFlippable_14 rfl (lv_at hl 4 rfl) ?_
  obtain ⟨r3, er3, h⟩ := obind h
  refine call_R (va_runS (As := [.int a1, .int a2, .int a3]) (rest := [.ref (G 0)]) ⟨hx, hb, hml, hown, hts⟩ (c_X1_lastFlipCell l z0 D t a1 a2 a3 _ er3) (kS hts qw680 qw681 qw8 qw682 ok_X1_lastFlipCell ⟨Nat.le_of_ble_eq_true rfl, Nat.le_of_ble_eq_true rfl⟩) ⟨PR.blind, fun U hU hW => ⟨rfl, by rw [hU]; exact hC.warm hW, by rw [hU]; exact va_P_nil⟩⟩ rfl rfl hl.1 rfl (lv_room (Nat.le_of_ble_eq_true rfl)) dX1_isFlippable_15 ⟨Nat.le_of_ble_eq_true rfl, Nat.le_of_ble_eq_true rfl⟩) ?_
  obtain ⟨r4, er4, h⟩ := obind h
  refine call_R (va_runV (As := [.long r3]) (rest := []) ⟨hx, hb, hml, hown, hts⟩ (c_X1_tripleOver l z0 D t G μ r3 _ er4) (kV hts qw679 qw637 qw638 qw8 qw639 ok_X1_tripleOver ⟨Nat.le_of_ble_eq_true rfl, Nat.le_of_ble_eq_true rfl⟩) ⟨PR.blind, va_recv hK hP (ci := 2) (q0 := 0) rfl rfl, fun U hU hW => ⟨rfl, by rw [hU]; exact hC.warm hW, by rw [hU]; exact hP⟩⟩ rfl rfl hl.1 rfl (lv_room (Nat.le_of_ble_eq_true rfl)) dX1_isFlippable_18 ⟨Nat.le_of_ble_eq_true rfl, Nat.le_of_ble_eq_true rfl⟩) ?_
  refine lv_istore (lv' := [(5, .int r4), (4, .int r2), (0, .ref (G 0)), (1, .int a1), (2, .int a2), (3, .int a3)]) hx hb dX1_isFlippable_21 hl (by decide) rfl (fun ls hl => ?_)
  refine lv_iload hx hb dX1_isFlippable_23 (lv_at hl 1 rfl) ?_
  refine lv_iconst (v := (-1)) hx hb dX1_isFlippable_25 (by decide) ?_
  refine lv_icmp_eq (tgt := 35) hx hb dX1_isFlippable_26 (by decide) (fun hc => ?_) (fun hc => ?_)
  · have h := iteT hc h
    refine lv_iconst (v := (0)) hx hb dX1_isFlippable_35 (by decide) ?_
    obtain rfl := Option.some.inj h
    exact W.zret hx hb hr rfl (fun t ht hW => ⟨rfl, ht⟩) (fun q hq => absurd hq List.not_mem_nil) dX1_isFlippable_36
  · have h := iteF hc h
    refine lv_iload hx hb dX1_isFlippable_29 (lv_at hl 0 rfl) ?_
    refine lv_iconst (v := (-1)) hx hb dX1_isFlippable_31 (by decide) ?_
    refine lv_icmp_ne (tgt := 37) hx hb dX1_isFlippable_32 (by decide) (fun hc => ?_) (fun hc => ?_)
    · have h := iteF hc h
      refine lv_iload_n hx hb dX1_isFlippable_37 rfl (lv_at hl 3 rfl) ?_
      refine lv_iload_n hx hb dX1_isFlippable_38 rfl (lv_at hl 4 rfl) ?_
      refine lv_iload_n hx hb dX1_isFlippable_39 rfl (lv_at hl 5 rfl) ?_
      obtain ⟨o5, eo5, h⟩ := obind h
      have hJ48_o5 : ∀ ls : Array Slot, lv_has ls 8 [(0, .ref (G 0)), (3, .int a3), (4, .int r2), (5, .int r4)] → W p l e (headSpec (ws_ yX1_isFlippable cX1_isFlippable 8 (some .boolean)) rm_X1_isFlippable).room s m ([.ref (G 0), .int a1, .int a2, .int a3] : List Value).toArray below meth c s.heap [] 0 0 (MQ below (QR (some (.int res))) ([.ref (G 0), .int a1, .int a2, .int a3] : List Value).toArray s 0 0 FN) (F0 m 48 ls [.int o5, .int a2, .int a1]) := by
        intro ls hl
        refine lv_iload_n hx hb dX1_isFlippable_48 rfl (lv_at hl 1 rfl) ?_
        obtain ⟨o6, eo6, h⟩ := obind h
        have hJ57_o6 : ∀ ls : Array Slot, lv_has ls 8 [(0, .ref (G 0)), (4, .int r2), (5, .int r4)] → W p l e (headSpec (ws_ yX1_isFlippable cX1_isFlippable 8 (some .boolean)) rm_X1_isFlippable).room s m ([.ref (G 0), .int a1, .int a2, .int a3] : List Value).toArray below meth c s.heap [] 0 0 (MQ below (QR (some (.int res))) ([.ref (G 0), .int a1, .int a2, .int a3] : List Value).toArray s 0 0 FN) (F0 m 57 ls [.int o6, .int o5, .int a2, .int a1]) := by
          intro ls hl
          obtain ⟨r7, er7, h⟩ := obind h
          refine call_R (va_runS (As := [.int a1, .int a2, .int o5, .int o6]) (rest := []) ⟨hx, hb, hml, hown, hts⟩ (c_X1_blockCells l z0 D t a1 a2 o5 o6 _ er7) (kS hts qw240 qw241 qw8 qw242 ok_X1_blockCells ⟨Nat.le_of_ble_eq_true rfl, Nat.le_of_ble_eq_true rfl⟩) ⟨PR.blind, fun U hU hW => ⟨rfl, by rw [hU]; exact hC.warm hW, by rw [hU]; exact va_P_nil⟩⟩ rfl rfl hl.1 rfl (lv_room (Nat.le_of_ble_eq_true rfl)) dX1_isFlippable_57 ⟨Nat.le_of_ble_eq_true rfl, Nat.le_of_ble_eq_true rfl⟩) ?_
          refine lv_lstore (lv' := [(6, .long r7), (0, .ref (G 0)), (4, .int r2), (5, .int r4)]) hx hb dX1_isFlippable_60 hl (by decide) rfl (fun ls hl => ?_)
          refine lv_aload_n hx hb dX1_isFlippable_62 rfl (lv_at hl 1 rfl) ?_
          refine lv_iload hx hb dX1_isFlippable_63 (lv_at hl 2 rfl) ?_
          obtain ⟨r8, er8, h⟩ := obind h
          refine call_R (va_runV (As := [.int r2]) (rest := []) ⟨hx, hb, hml, hown, hts⟩ (c_X1_tripleCells l z0 D t G μ r2 _ er8) (kV hts qw640 qw642 qs21 qw8 qw643 ok_X1_tripleCells ⟨Nat.le_of_ble_eq_true rfl, Nat.le_of_ble_eq_true rfl⟩) ⟨PR.blind, va_recv hK hP (ci := 2) (q0 := 0) rfl rfl, fun U hU hW => ⟨rfl, by rw [hU]; exact hC.warm hW, by rw [hU]; exact hP⟩⟩ rfl rfl hl.1 rfl (lv_room (Nat.le_of_ble_eq_true rfl)) dX1_isFlippable_65 ⟨Nat.le_of_ble_eq_true rfl, Nat.le_of_ble_eq_true rfl⟩) ?_
          refine lv_aload_n hx hb dX1_isFlippable_68 rfl (lv_at hl 1 rfl) ?_
          refine lv_iload hx hb dX1_isFlippable_69 (lv_at hl 3 rfl) ?_
          obtain ⟨r9, er9, h⟩ := obind h
          refine call_R (va_runV (As := [.int r4]) (rest := [.long r8]) ⟨hx, hb, hml, hown, hts⟩ (c_X1_tripleCells l z0 D t G μ r4 _ er9) (kV hts qw640 qw642 qs21 qw8 qw643 ok_X1_tripleCells ⟨Nat.le_of_ble_eq_true rfl, Nat.le_of_ble_eq_true rfl⟩) ⟨PR.blind, va_recv hK hP (ci := 2) (q0 := 0) rfl rfl, fun U hU hW => ⟨rfl, by rw [hU]; exact hC.warm hW, by rw [hU]; exact hP⟩⟩ rfl rfl hl.1 rfl (lv_room (Nat.le_of_ble_eq_true rfl)) dX1_isFlippable_71 ⟨Nat.le_of_ble_eq_true rfl, Nat.le_of_ble_eq_true rfl⟩) ?_
          refine lv_lor hx hb dX1_isFlippable_74 ?_
          refine lv_lload hx hb dX1_isFlippable_75 (lv_at hl 0 rfl) ?_
          refine W.lcmp hx hb dX1_isFlippable_77 ?_
          refine lv_if_ne (tgt := 85) hx hb dX1_isFlippable_78 (by decide) (fun hc => ?_) (fun hc => ?_)
          · have h := iteF hc h
            refine lv_iconst (v := (0)) hx hb dX1_isFlippable_85 (by decide) ?_
            obtain rfl := Option.some.inj h
            exact W.zret hx hb hr rfl (fun t ht hW => ⟨rfl, ht⟩) (fun q hq => absurd hq List.not_mem_nil) dX1_isFlippable_86
          · have h := iteT hc h
            refine lv_iconst (v := (1)) hx hb dX1_isFlippable_81 (by decide) ?_
            refine lv_goto (tgt := 86) hx hb dX1_isFlippable_82 (by decide) ?_
            obtain rfl := Option.some.inj h
            exact W.zret hx hb hr rfl (fun t ht hW => ⟨rfl, ht⟩) (fun q hq => absurd hq List.not_mem_nil) dX1_isFlippable_86
        have h := eo6
        clear eo6
        refine lv_if_eq (tgt := 56) hx hb dX1_isFlippable_49 (by decide) (fun hc => ?_) (fun hc => ?_)
        · have h := iteT hc h
          refine lv_iconst (v := (2)) hx hb dX1_isFlippable_56 (by decide) ?_
          obtain rfl := Option.some.inj h
          exact hJ57_o6 ls (lv_sub hl [0, 2, 3] rfl)
        · have h := iteF hc h
          refine lv_iconst (v := (3)) hx hb dX1_isFlippable_52 (by decide) ?_
          refine lv_goto (tgt := 57) hx hb dX1_isFlippable_53 (by decide) ?_
          obtain rfl := Option.some.inj h
          exact hJ57_o6 ls (lv_sub hl [0, 2, 3] rfl)
      have h := eo5
      clear eo5
      refine lv_if_eq (tgt := 47) hx hb dX1_isFlippable_40 (by decide) (fun hc => ?_) (fun hc => ?_)
      · have h := iteT hc h
        refine lv_iconst (v := (3)) hx hb dX1_isFlippable_47 (by decide) ?_
        obtain rfl := Option.some.inj h
        exact hJ48_o5 ls (lv_sub hl [2, 5, 1, 0] rfl)
      · have h := iteF hc h
        refine lv_iconst (v := (2)) hx hb dX1_isFlippable_43 (by decide) ?_
        refine lv_goto (tgt := 48) hx hb dX1_isFlippable_44 (by decide) ?_
        obtain rfl := Option.some.inj h
        exact hJ48_o5 ls (lv_sub hl [2, 5, 1, 0] rfl)
    · have h := iteT hc h
      refine lv_iconst (v := (0)) hx hb dX1_isFlippable_35 (by decide) ?_
      obtain rfl := Option.some.inj h
      exact W.zret hx hb hr rfl (fun t ht hW => ⟨rfl, ht⟩) (fun q hq => absurd hq List.not_mem_nil) dX1_isFlippable_36

abbrev rm_X1_flipBlock : Room := { frames := 3, cells := 0, slots := 0, locals := 85 }
theorem ok_X1_flipBlock : okY yX1_flipBlock 3 := ⟨by decide +kernel, by decide +kernel, by decide +kernel⟩
set_option maxHeartbeats 4000000 in
set_option maxRecDepth 100000 in
theorem c_X1_flipBlock (l : Launch) (z0 : Nat) (D : va_G) (t : Nat → ClassId) (G : Nat → Nat) (μ : GS) (a1 : Int32) (a2 : Int32) (a3 : Int32) (res : (Int64) × (Int32) × (Int32) × (Nat → Int32)) (sz : Nat) (h : f_X1_flipBlock μ a1 a2 a3 = some res) : Met l yX1_flipBlock (ws_ yX1_flipBlock cX1_flipBlock 7 none) rm_X1_flipBlock (PM z0 D t [.ref (G 0), .int a1, .int a2, .int a3] (GW G t μ) (GL G) sz) (QM none D (GW G t (g_names' (g_flips' (g_tc' (g_paved' μ res.1) res.2.1) res.2.2.1) res.2.2.2)) (GL G) sz) 0 0 (OA (GL G) sz) := by
  refine Met.ofW (cc := cX1_flipBlock) (maxL := 7) (ret := none) (by decide) rfl ?_
  intro p e s m args below meth c s₁ Bo hml hv
  obtain ⟨rfl, hC, hsz, hP, hD, hZ⟩ := hv
  have hx := Bo.exec
  have hb := Bo.bytes
  have hr := Bo.returns
  have hts : ∀ w ∈ LA, w.before _ s = true := fun w hw => atoms_spec (ws := ws_ yX1_flipBlock cX1_flipBlock 7 none) Bo.pre w (List.mem_cons_of_mem _ hw)
  have hown : s.vm.findClass RX1 = some m.cls := findClass_of_methodNamed Bo.named
  have hlocks := Bo.notSynchronized
  have hK := hC.1
  subst hsz
  have hl := lv_entry ([.ref (G 0), .int a1, .int a2, .int a3]) (n := 7) (Nat.le_of_ble_eq_true rfl)
  rw [lg_entry_eq]
  generalize (lg_sl ([.ref (G 0), .int a1, .int a2, .int a3]) ++ List.replicate (7 - (lg_sl ([.ref (G 0), .int a1, .int a2, .int a3])).length) Slot.unset).toArray = ls at hl ⊢
  have hl : lv_has ls 7 [(0, .ref (G 0)), (1, .int a1), (2, .int a2), (3, .int a3)] := hl
  suffices K9 : ∀ (H : Heap) (locs : List Loc), va_P D vwCl (GW G t μ) H → va_S (OA (GL G) s.heap.size) s.heap H locs → W p l e (headSpec (ws_ yX1_flipBlock cX1_flipBlock 7 none) rm_X1_flipBlock).room s m ([.ref (G 0), .int a1, .int a2, .int a3] : List Value).toArray below meth c H locs 0 0 (MQ below (QM none D (GW G t (g_names' (g_flips' (g_tc' (g_paved' μ res.1) res.2.1) res.2.2.1) res.2.2.2)) (GL G) s.heap.size) ([.ref (G 0), .int a1, .int a2, .int a3] : List Value).toArray s 0 0 (OA (GL G) s.heap.size)) (F0 m 0 ls []) from K9 s.heap [] hP va_S.rf
  intro H locs hP hS
  have hSz : s.heap.size ≤ H.size := hS.1
  unfold f_X1_flipBlock at h
  refine lv_aload_n hx hb dX1_flipBlock_0 rfl (lv_at hl 0 rfl) ?_
  refine lv_iload_n hx hb dX1_flipBlock_1 rfl (lv_at hl 1 rfl) ?_
  refine lv_iload_n hx hb dX1_flipBlock_2 rfl (lv_at hl 2 rfl) ?_
  obtain ⟨r1, er1, h⟩ := obind h
  refine call_R (va_runSN (As := [.int a1, .int a2]) (rest := [.ref (G 0)]) ⟨hx, hb, hml, hown, hts⟩ (c_X4_cellAt l z0 D t a1 a2 _ er1) ⟨kN hts (hC.2.1 _ qw678) qw1 qw230 ok_X4_cellAt ⟨Nat.le_of_ble_eq_true rfl, Nat.le_of_ble_eq_true rfl⟩, hts _ qw229, trivial⟩ ⟨PR.blind, fun U hU hW => ⟨rfl, by rw [hU]; exact (hC.at hS hZ).warm hW, by rw [hU]; exact va_P_nil⟩⟩ rfl rfl hl.1 rfl (lv_room (Nat.le_of_ble_eq_true rfl)) dX1_flipBlock_3 ⟨Nat.le_of_ble_eq_true rfl, Nat.le_of_ble_eq_true rfl⟩) ?_
  obtain ⟨r2, er2, h⟩ := obind h
  refine call_R (va_runV (As := [.long r1]) (rest := []) ⟨hx, hb, hml, hown, hts⟩ (c_X1_tripleOver l z0 D t G μ r1 _ er2) (kV hts qw679 qw637 qw638 qw8 qw639 ok_X1_tripleOver ⟨Nat.le_of_ble_eq_true rfl, Nat.le_of_ble_eq_true rfl⟩) ⟨PR.blind, va_recv hK hP (ci := 2) (q0 := 0) rfl rfl, fun U hU hW => ⟨rfl, by rw [hU]; exact (hC.at hS hZ).warm hW, by rw [hU]; exact hP⟩⟩ rfl rfl hl.1 rfl (lv_room (Nat.le_of_ble_eq_true rfl)) dX1_flipBlock_6 ⟨Nat.le_of_ble_eq_true rfl, Nat.le_of_ble_eq_true rfl⟩) ?_
  refine lv_istore (lv' := [(4, .int r2), (0, .ref (G 0)), (1, .int a1), (2, .int a2), (3, .int a3)]) hx hb dX1_flipBlock_9 hl (by decide) rfl (fun ls hl => ?_)
  refine lv_aload_n hx hb dX1_flipBlock_11 rfl (lv_at hl 1 rfl) ?_
  refine lv_iload_n hx hb dX1_flipBlock_12 rfl (lv_at hl 2 rfl) ?_
  refine lv_iload_n hx hb dX1_flipBlock_13 rfl (lv_at hl 3 rfl) ?_
  refine lv_iload_n hx hb dX1_flipBlock_14 rfl (lv_at hl 4 rfl) ?_
  obtain ⟨r3, er3, h⟩ := obind h
  refine call_R (va_runS (As := [.int a1, .int a2, .int a3]) (rest := [.ref (G 0)]) ⟨hx, hb, hml, hown, hts⟩ (c_X1_lastFlipCell l z0 D t a1 a2 a3 _ er3) (kS hts qw680 qw681 qw8 qw682 ok_X1_lastFlipCell ⟨Nat.le_of_ble_eq_true rfl, Nat.le_of_ble_eq_true rfl⟩) ⟨PR.blind, fun U hU hW => ⟨rfl, by rw [hU]; exact (hC.at hS hZ).warm hW, by rw [hU]; exact va_P_nil⟩⟩ rfl rfl hl.1 rfl (lv_room (Nat.le_of_ble_eq_true rfl)) dX1_flipBlock_15 ⟨Nat.le_of_ble_eq_true rfl, Nat.le_of_ble_eq_true rfl⟩) ?_
  obtain ⟨r4, er4, h⟩ := obind h
  refine call_R (va_runV (As := [.long r3]) (rest := []) ⟨hx, hb, hml, hown, hts⟩ (c_X1_tripleOver l z0 D t G μ r3 _ er4) (kV hts qw679 qw637 qw638 qw8 qw639 ok_X1_tripleOver ⟨Nat.le_of_ble_eq_true rfl, Nat.le_of_ble_eq_true rfl⟩) ⟨PR.blind, va_recv hK hP (ci := 2) (q0 := 0) rfl rfl, fun U hU hW => ⟨rfl, by rw [hU]; exact (hC.at hS hZ).warm hW, by rw [hU]; exact hP⟩⟩ rfl rfl hl.1 rfl (lv_room (Nat.le_of_ble_eq_true rfl)) dX1_flipBlock_18 ⟨Nat.le_of_ble_eq_true rfl, Nat.le_of_ble_eq_true rfl⟩) ?_
  refine lv_istore (lv' := [(5, .int r4), (4, .int r2), (0, .ref (G 0)), (1, .int a1), (2, .int a2), (3, .int a3)]) hx hb dX1_flipBlock_21 hl (by decide) rfl (fun ls hl => ?_)
  refine lv_iload_n hx hb dX1_flipBlock_23 rfl (lv_at hl 5 rfl) ?_
  obtain ⟨o5, eo5, h⟩ := obind h
  have hJ32_o5 : ∀ (ls : Array Slot) (H : Heap) (locs : List Loc), lv_has ls 7 [(0, .ref (G 0)), (1, .int a1), (2, .int a2), (3, .int a3), (4, .int r2), (5, .int r4)] → va_P D vwCl (GW G t μ) H → va_D (OA (GL G) s.heap.size) (GW G t μ) → va_S (OA (GL G) s.heap.size) s.heap H locs → W p l e (headSpec (ws_ yX1_flipBlock cX1_flipBlock 7 none) rm_X1_flipBlock).room s m ([.ref (G 0), .int a1, .int a2, .int a3] : List Value).toArray below meth c H locs 0 0 (MQ below (QM none D (GW G t (g_names' (g_flips' (g_tc' (g_paved' μ res.1) res.2.1) res.2.2.1) res.2.2.2)) (GL G) s.heap.size) ([.ref (G 0), .int a1, .int a2, .int a3] : List Value).toArray s 0 0 (OA (GL G) s.heap.size)) (F0 m 32 ls [.int o5]) := by
    intro ls H locs hl hP hD hS
    have hSz : s.heap.size ≤ H.size := hS.1
    refine lv_aload_n hx hb dX1_flipBlock_32 rfl (lv_at hl 0 rfl) ?_
    refine lv_iload hx hb dX1_flipBlock_33 (lv_at hl 4 rfl) ?_
    obtain ⟨r6, er6, h⟩ := obind h
    refine call_R (va_runV (As := [.int r2]) (rest := [.int o5]) ⟨hx, hb, hml, hown, hts⟩ (c_X1_tripleName l z0 D t G μ r2 _ er6) (kV hts qw644 qw645 qw646 qw8 qw647 ok_X1_tripleName ⟨Nat.le_of_ble_eq_true rfl, Nat.le_of_ble_eq_true rfl⟩) ⟨PR.blind, va_recv hK hP (ci := 2) (q0 := 0) rfl rfl, fun U hU hW => ⟨rfl, by rw [hU]; exact (hC.at hS hZ).warm hW, by rw [hU]; exact hP⟩⟩ rfl rfl hl.1 rfl (lv_room (Nat.le_of_ble_eq_true rfl)) dX1_flipBlock_35 ⟨Nat.le_of_ble_eq_true rfl, Nat.le_of_ble_eq_true rfl⟩) ?_
    obtain ⟨r7, er7, h⟩ := obind h
    refine call_R (va_runSN (As := [.int r6]) (rest := [.int o5]) ⟨hx, hb, hml, hown, hts⟩ (c_X4_turnOf l z0 D t r6 _ er7) ⟨kN hts (hC.2.1 _ qw654) qw1 qw656 ok_X4_turnOf ⟨Nat.le_of_ble_eq_true rfl, Nat.le_of_ble_eq_true rfl⟩, hts _ qw655, trivial⟩ ⟨PR.blind, fun U hU hW => ⟨rfl, by rw [hU]; exact (hC.at hS hZ).warm hW, by rw [hU]; exact va_P_nil⟩⟩ rfl rfl hl.1 rfl (lv_room (Nat.le_of_ble_eq_true rfl)) dX1_flipBlock_38 ⟨Nat.le_of_ble_eq_true rfl, Nat.le_of_ble_eq_true rfl⟩) ?_
    refine lv_isub hx hb dX1_flipBlock_41 ?_
    obtain ⟨x8, ex8, h⟩ := jlet_some h
    refine topI ex8 ?_
    refine lv_istore (lv' := [(6, .int x8), (0, .ref (G 0)), (1, .int a1), (2, .int a2), (3, .int a3), (4, .int r2), (5, .int r4)]) hx hb dX1_flipBlock_42 hl (by decide) rfl (fun ls hl => ?_)
    refine lv_aload_n hx hb dX1_flipBlock_44 rfl (lv_at hl 1 rfl) ?_
    refine lv_iload hx hb dX1_flipBlock_45 (lv_at hl 5 rfl) ?_
    refine lv_iload hx hb dX1_flipBlock_47 (lv_at hl 6 rfl) ?_
    refine va_mmax hx hb (hml.trans hl.1.symm) hown (hts _ qw688) (hts _ qw349) (hts _ qw18) (hts _ qw350) (Nat.le_of_ble_eq_true rfl) (Nat.le_of_ble_eq_true rfl) (Nat.le_of_ble_eq_true rfl) (Nat.le_of_ble_eq_true rfl) dX1_flipBlock_49 ?_
    obtain ⟨r9, er9, h⟩ := obind h
    refine call_M (va_runV (As := [.int (if r2 < r4 then r4 else r2)]) (rest := []) ⟨hx, hb, hml, hown, hts⟩ (c_X1_takeTriple l z0 D t G μ (if r2 < r4 then r4 else r2) _ H.size er9) (kV hts qw689 qw659 qw660 qw8 qw661 ok_X1_takeTriple ⟨Nat.le_of_ble_eq_true rfl, Nat.le_of_ble_eq_true rfl⟩) ⟨PM.blind, va_recv hK hP (ci := 2) (q0 := 0) rfl rfl, fun U hU hW => ⟨rfl, by rw [hU]; exact (hC.at hS hZ).warm hW, by rw [hU], by rw [hU]; exact hP, ⟨hD.1, fun _ _ h9 => Or.inl (in_map (L := (GL G)) rfl h9)⟩, fun q hq => hZ q (OA.ofD hD rfl hSz q hq)⟩⟩ rfl rfl hl.1 rfl (lv_room (Nat.le_of_ble_eq_true rfl)) dX1_flipBlock_52 ⟨Nat.le_of_ble_eq_true rfl, Nat.le_of_ble_eq_true rfl⟩) hS (OA.ofD hD rfl hSz) (fun H locs hP hD1 hS _ _ => ?_)
    have hP : va_P D vwCl (GW G t (g_names' (g_tc' (g_paved' μ r9.1) r9.2.1) r9.2.2)) H := hP
    have hD : va_D (OA (GL G) s.heap.size) (GW G t (g_names' (g_tc' (g_paved' μ r9.1) r9.2.1) r9.2.2)) := hD1.weaken (fun _ q _ h9 => OA.ofD hD rfl hSz q.1 h9)
    have hSz : s.heap.size ≤ H.size := hS.1
    refine lv_aload_n hx hb dX1_flipBlock_55 rfl (lv_at hl 1 rfl) ?_
    refine lv_iload hx hb dX1_flipBlock_56 (lv_at hl 5 rfl) ?_
    refine lv_iload hx hb dX1_flipBlock_58 (lv_at hl 6 rfl) ?_
    refine va_mmin hx hb (hml.trans hl.1.symm) hown (hts _ qw690) (hts _ qw346) (hts _ qw18) (hts _ qw347) (Nat.le_of_ble_eq_true rfl) (Nat.le_of_ble_eq_true rfl) (Nat.le_of_ble_eq_true rfl) (Nat.le_of_ble_eq_true rfl) dX1_flipBlock_60 ?_
    obtain ⟨r10, er10, h⟩ := obind h
    refine call_M (va_runV (As := [.int (if r4 < r2 then r4 else r2)]) (rest := []) ⟨hx, hb, hml, hown, hts⟩ (c_X1_takeTriple l z0 D t G (g_names' (g_tc' (g_paved' μ r9.1) r9.2.1) r9.2.2) (if r4 < r2 then r4 else r2) _ H.size er10) (kV hts qw689 qw659 qw660 qw8 qw661 ok_X1_takeTriple ⟨Nat.le_of_ble_eq_true rfl, Nat.le_of_ble_eq_true rfl⟩) ⟨PM.blind, va_recv hK hP (ci := 2) (q0 := 0) rfl rfl, fun U hU hW => ⟨rfl, by rw [hU]; exact (hC.at hS hZ).warm hW, by rw [hU], by rw [hU]; exact hP, ⟨hD.1, fun _ _ h9 => Or.inl (in_map (L := (GL G)) rfl h9)⟩, fun q hq => hZ q (OA.ofD hD rfl hSz q hq)⟩⟩ rfl rfl hl.1 rfl (lv_room (Nat.le_of_ble_eq_true rfl)) dX1_flipBlock_63 ⟨Nat.le_of_ble_eq_true rfl, Nat.le_of_ble_eq_true rfl⟩) hS (OA.ofD hD rfl hSz) (fun H locs hP hD1 hS _ _ => ?_)
    have hP : va_P D vwCl (GW G t (g_names' (g_tc' (g_paved' μ r10.1) r10.2.1) r10.2.2)) H := hP
    have hD : va_D (OA (GL G) s.heap.size) (GW G t (g_names' (g_tc' (g_paved' μ r10.1) r10.2.1) r10.2.2)) := hD1.weaken (fun _ q _ h9 => OA.ofD hD rfl hSz q.1 h9)
    have hSz : s.heap.size ≤ H.size := hS.1
    refine lv_aload_n hx hb dX1_flipBlock_66 rfl (lv_at hl 1 rfl) ?_
    refine lv_iload_n hx hb dX1_flipBlock_67 rfl (lv_at hl 2 rfl) ?_
    refine lv_iload_n hx hb dX1_flipBlock_68 rfl (lv_at hl 3 rfl) ?_
    refine lv_iload hx hb dX1_flipBlock_69 (lv_at hl 0 rfl) ?_
    obtain ⟨r11, er11, h⟩ := obind h
    refine call_M (va_runV (As := [.int a1, .int a2, .int x8]) (rest := []) ⟨hx, hb, hml, hown, hts⟩ (c_X1_putTriple l z0 D t G (g_names' (g_tc' (g_paved' μ r10.1) r10.2.1) r10.2.2) a1 a2 x8 _ H.size er11) (kV hts qw691 qw623 qw624 qw8 qw625 ok_X1_putTriple ⟨Nat.le_of_ble_eq_true rfl, Nat.le_of_ble_eq_true rfl⟩) ⟨PM.blind, va_recv hK hP (ci := 2) (q0 := 0) rfl rfl, fun U hU hW => ⟨rfl, by rw [hU]; exact (hC.at hS hZ).warm hW, by rw [hU], by rw [hU]; exact hP, ⟨hD.1, fun _ _ h9 => Or.inl (in_map (L := (GL G)) rfl h9)⟩, fun q hq => hZ q (OA.ofD hD rfl hSz q hq)⟩⟩ rfl rfl hl.1 rfl (lv_room (Nat.le_of_ble_eq_true rfl)) dX1_flipBlock_71 ⟨Nat.le_of_ble_eq_true rfl, Nat.le_of_ble_eq_true rfl⟩) hS (OA.ofD hD rfl hSz) (fun H locs hP hD1 hS _ _ => ?_)
    have hP : va_P D vwCl (GW G t (g_names' (g_tc' (g_paved' μ r11.1) r11.2.1) r11.2.2)) H := hP
    have hD : va_D (OA (GL G) s.heap.size) (GW G t (g_names' (g_tc' (g_paved' μ r11.1) r11.2.1) r11.2.2)) := hD1.weaken (fun _ q _ h9 => OA.ofD hD rfl hSz q.1 h9)
    have hSz : s.heap.size ≤ H.size := hS.1
    refine lv_aload_n hx hb dX1_flipBlock_74 rfl (lv_at hl 1 rfl) ?_
    refine lv_iload_n hx hb dX1_flipBlock_75 rfl (lv_at hl 4 rfl) ?_
    obtain ⟨o12, eo12, h⟩ := obind h
    have hJ86_o12 : ∀ (ls : Array Slot) (H : Heap) (locs : List Loc), lv_has ls 7 [(0, .ref (G 0)), (2, .int a2), (3, .int a3), (6, .int x8)] → va_P D vwCl (GW G t (g_names' (g_tc' (g_paved' μ r11.1) r11.2.1) r11.2.2)) H → va_D (OA (GL G) s.heap.size) (GW G t (g_names' (g_tc' (g_paved' μ r11.1) r11.2.1) r11.2.2)) → va_S (OA (GL G) s.heap.size) s.heap H locs → W p l e (headSpec (ws_ yX1_flipBlock cX1_flipBlock 7 none) rm_X1_flipBlock).room s m ([.ref (G 0), .int a1, .int a2, .int a3] : List Value).toArray below meth c H locs 0 0 (MQ below (QM none D (GW G t (g_names' (g_flips' (g_tc' (g_paved' μ res.1) res.2.1) res.2.2.1) res.2.2.2)) (GL G) s.heap.size) ([.ref (G 0), .int a1, .int a2, .int a3] : List Value).toArray s 0 0 (OA (GL G) s.heap.size)) (F0 m 86 ls [.int o12, .ref (G 0)]) := by
      intro ls H locs hl hP hD hS
      have hSz : s.heap.size ≤ H.size := hS.1
      refine lv_iload_n hx hb dX1_flipBlock_86 rfl (lv_at hl 2 rfl) ?_
      obtain ⟨o13, eo13, h⟩ := obind h
      have hJ97_o13 : ∀ (ls : Array Slot) (H : Heap) (locs : List Loc), lv_has ls 7 [(0, .ref (G 0)), (6, .int x8)] → va_P D vwCl (GW G t (g_names' (g_tc' (g_paved' μ r11.1) r11.2.1) r11.2.2)) H → va_D (OA (GL G) s.heap.size) (GW G t (g_names' (g_tc' (g_paved' μ r11.1) r11.2.1) r11.2.2)) → va_S (OA (GL G) s.heap.size) s.heap H locs → W p l e (headSpec (ws_ yX1_flipBlock cX1_flipBlock 7 none) rm_X1_flipBlock).room s m ([.ref (G 0), .int a1, .int a2, .int a3] : List Value).toArray below meth c H locs 0 0 (MQ below (QM none D (GW G t (g_names' (g_flips' (g_tc' (g_paved' μ res.1) res.2.1) res.2.2.1) res.2.2.2)) (GL G) s.heap.size) ([.ref (G 0), .int a1, .int a2, .int a3] : List Value).toArray s 0 0 (OA (GL G) s.heap.size)) (F0 m 97 ls [.int o13, .int o12, .ref (G 0)]) := by
        intro ls H locs hl hP hD hS
        have hSz : s.heap.size ≤ H.size := hS.1
        refine lv_iload hx hb dX1_flipBlock_97 (lv_at hl 1 rfl) ?_
        refine lv_iconst (v := (2)) hx hb dX1_flipBlock_99 (by decide) ?_
        refine lv_iadd hx hb dX1_flipBlock_100 ?_
        refine lv_iconst (v := (4)) hx hb dX1_flipBlock_101 (by decide) ?_
        refine lv_irem hx hb dX1_flipBlock_102 (by decide) ?_
        obtain ⟨r14, er14, h⟩ := obind h
        refine call_M (va_runV (As := [.int o12, .int o13, .int ((x8 + (2 : Int32)) - (x8 + (2 : Int32)) / (4 : Int32) * (4 : Int32))]) (rest := []) ⟨hx, hb, hml, hown, hts⟩ (c_X1_putTriple l z0 D t G (g_names' (g_tc' (g_paved' μ r11.1) r11.2.1) r11.2.2) o12 o13 ((x8 + (2 : Int32)) - (x8 + (2 : Int32)) / (4 : Int32) * (4 : Int32)) _ H.size er14) (kV hts qw691 qw623 qw624 qw8 qw625 ok_X1_putTriple ⟨Nat.le_of_ble_eq_true rfl, Nat.le_of_ble_eq_true rfl⟩) ⟨PM.blind, va_recv hK hP (ci := 2) (q0 := 0) rfl rfl, fun U hU hW => ⟨rfl, by rw [hU]; exact (hC.at hS hZ).warm hW, by rw [hU], by rw [hU]; exact hP, ⟨hD.1, fun _ _ h9 => Or.inl (in_map (L := (GL G)) rfl h9)⟩, fun q hq => hZ q (OA.ofD hD rfl hSz q hq)⟩⟩ rfl rfl hl.1 rfl (lv_room (Nat.le_of_ble_eq_true rfl)) dX1_flipBlock_103 ⟨Nat.le_of_ble_eq_true rfl, Nat.le_of_ble_eq_true rfl⟩) hS (OA.ofD hD rfl hSz) (fun H locs hP hD1 hS _ _ => ?_)
        have hP : va_P D vwCl (GW G t (g_names' (g_tc' (g_paved' μ r14.1) r14.2.1) r14.2.2)) H := hP
        have hD : va_D (OA (GL G) s.heap.size) (GW G t (g_names' (g_tc' (g_paved' μ r14.1) r14.2.1) r14.2.2)) := hD1.weaken (fun _ q _ h9 => OA.ofD hD rfl hSz q.1 h9)
        have hSz : s.heap.size ≤ H.size := hS.1
        refine lv_aload_n hx hb dX1_flipBlock_106 rfl (lv_at hl 0 rfl) ?_
        refine lv_dup hx hb dX1_flipBlock_107 rfl ?_
        refine va_get hx hb hts inX1 hown hK hP 0 rfl rfl 6 (by decide) (hts _ qw131) (fun _ h9 => h9) rfl dX1_flipBlock_108 ?_
        refine lv_iconst (v := (1)) hx hb dX1_flipBlock_111 (by decide) ?_
        refine lv_iadd hx hb dX1_flipBlock_112 ?_
        obtain ⟨x15, ex15, h⟩ := jlet_some h
        refine topI ex15 ?_
        refine va_put (D := D) (ci := 2) (v := .int x15) (ty := .int) hx hb hts inX1 tyX1 tyX1_ok nmX1 hown hK hP hD hS 0 rfl rfl 6 (by decide) (hts _ qw131) (fun _ h9 => h9) rfl (by decide +kernel) rfl rfl (Nat.le_of_ble_eq_true rfl) dX1_flipBlock_113 (fun H locs hP hD hS => ?_)
        have hP : va_P D vwCl (GW G t (g_names' (g_flips' (g_tc' (g_paved' μ r14.1) r14.2.1) x15) r14.2.2)) H := hP
        have hD : va_D (OA (GL G) s.heap.size) (GW G t (g_names' (g_flips' (g_tc' (g_paved' μ r14.1) r14.2.1) x15) r14.2.2)) := hD
        have hSz : s.heap.size ≤ H.size := hS.1
        obtain rfl := Option.some.inj h
        exact W.vret hx hb hr (fun t ht hW => ⟨rfl, by rw [ht]; exact hP, hD, hS.F ht⟩) hS.2.2 dX1_flipBlock_116
      have h := eo13
      clear eo13
      refine lv_if_eq (tgt := 96) hx hb dX1_flipBlock_87 (by decide) (fun hc => ?_) (fun hc => ?_)
      · have h := iteT hc h
        refine lv_iload_n hx hb dX1_flipBlock_96 rfl (lv_at hl 1 rfl) ?_
        obtain rfl := Option.some.inj h
        exact hJ97_o13 ls H locs (lv_sub hl [0, 3] rfl) hP hD hS
      · have h := iteF hc h
        refine lv_iload_n hx hb dX1_flipBlock_90 rfl (lv_at hl 1 rfl) ?_
        refine lv_iconst (v := (1)) hx hb dX1_flipBlock_91 (by decide) ?_
        refine lv_iadd hx hb dX1_flipBlock_92 ?_
        refine lv_goto (tgt := 97) hx hb dX1_flipBlock_93 (by decide) ?_
        obtain rfl := Option.some.inj h
        exact hJ97_o13 ls H locs (lv_sub hl [0, 3] rfl) hP hD hS
    have h := eo12
    clear eo12
    refine lv_if_eq (tgt := 83) hx hb dX1_flipBlock_76 (by decide) (fun hc => ?_) (fun hc => ?_)
    · have h := iteT hc h
      refine lv_iload_n hx hb dX1_flipBlock_83 rfl (lv_at hl 2 rfl) ?_
      refine lv_iconst (v := (1)) hx hb dX1_flipBlock_84 (by decide) ?_
      refine lv_iadd hx hb dX1_flipBlock_85 ?_
      obtain rfl := Option.some.inj h
      exact hJ86_o12 ls H locs (lv_sub hl [1, 3, 4, 0] rfl) hP hD hS
    · have h := iteF hc h
      refine lv_iload_n hx hb dX1_flipBlock_79 rfl (lv_at hl 2 rfl) ?_
      refine lv_goto (tgt := 86) hx hb dX1_flipBlock_80 (by decide) ?_
      obtain rfl := Option.some.inj h
      exact hJ86_o12 ls H locs (lv_sub hl [1, 3, 4, 0] rfl) hP hD hS
  have h := eo5
  clear eo5
  refine lv_if_eq (tgt := 31) hx hb dX1_flipBlock_24 (by decide) (fun hc => ?_) (fun hc => ?_)
  · have h := iteT hc h
    refine lv_iconst (v := (3)) hx hb dX1_flipBlock_31 (by decide) ?_
    obtain rfl := Option.some.inj h
    exact hJ32_o5 ls H locs (lv_sub hl [2, 3, 4, 5, 1, 0] rfl) hP hD hS
  · have h := iteF hc h
    refine lv_iconst (v := (5)) hx hb dX1_flipBlock_27 (by decide) ?_
    refine lv_goto (tgt := 32) hx hb dX1_flipBlock_28 (by decide) ?_
    obtain rfl := Option.some.inj h
    exact hJ32_o5 ls H locs (lv_sub hl [2, 3, 4, 5, 1, 0] rfl) hP hD hS

abbrev rm_X0_isFull : Room := { frames := 0, cells := 0, slots := 0, locals := 0 }
theorem ok_X0_isFull : okY yX0_isFull 0 := ⟨by decide +kernel, by decide +kernel, by decide +kernel⟩
set_option maxHeartbeats 4000000 in
set_option maxRecDepth 100000 in
theorem c_X0_isFull (l : Launch) (z0 : Nat) (D : va_G) (t : Nat → ClassId) (E : Nat → Nat) (μ : BS) (res : Int32) (h : f_X0_isFull μ = some res) : Met l yX0_isFull (ws_ yX0_isFull cX0_isFull 1 (some .boolean)) rm_X0_isFull (PR z0 D t [.ref (E 0)] (BW E t μ)) (QR (some (.int res))) 0 0 FN := by
  refine Met.ofW (cc := cX0_isFull) (maxL := 1) (ret := (some .boolean)) (by decide) rfl ?_
  intro p e s m args below meth c s₁ Bo hml hv
  obtain ⟨rfl, hC, hP⟩ := hv
  have hx := Bo.exec
  have hb := Bo.bytes
  have hr := Bo.returns
  have hts : ∀ w ∈ LA, w.before _ s = true := fun w hw => atoms_spec (ws := ws_ yX0_isFull cX0_isFull 1 (some .boolean)) Bo.pre w (List.mem_cons_of_mem _ hw)
  have hown : s.vm.findClass RX0 = some m.cls := findClass_of_methodNamed Bo.named
  have hlocks := Bo.notSynchronized
  have hK := hC.1
  have hl := lv_entry ([.ref (E 0)]) (n := 1) (Nat.le_of_ble_eq_true rfl)
  rw [lg_entry_eq]
  generalize (lg_sl ([.ref (E 0)]) ++ List.replicate (1 - (lg_sl ([.ref (E 0)])).length) Slot.unset).toArray = ls at hl ⊢
  have hl : lv_has ls 1 [(0, .ref (E 0))] := hl
  unfold f_X0_isFull at h
  refine lv_aload_n hx hb dX0_isFull_0 rfl (lv_at hl 0 rfl) ?_
  refine va_get hx hb hts inX0 hown hK hP 0 rfl rfl 0 (by decide) (hts _ qw67) (fun _ h9 => h9) rfl dX0_isFull_1 ?_
  refine lv_aload_n hx hb dX0_isFull_4 rfl (lv_at hl 0 rfl) ?_
  refine va_get hx hb hts inX0 hown hK hP 0 rfl rfl 1 (by decide) (hts _ qw69) (fun _ h9 => h9) rfl dX0_isFull_5 ?_
  refine va_alen hx hb hK hP 1 0 rfl rfl (v := 71) rfl dX0_isFull_8 ?_
  refine lv_icmp_lt (tgt := 16) hx hb dX0_isFull_9 (by decide) (fun hc => ?_) (fun hc => ?_)
  · have h := iteT hc h
    refine lv_iconst (v := (0)) hx hb dX0_isFull_16 (by decide) ?_
    obtain rfl := Option.some.inj h
    exact W.zret hx hb hr rfl (fun t ht hW => ⟨rfl, ht⟩) (fun q hq => absurd hq List.not_mem_nil) dX0_isFull_17
  · have h := iteF hc h
    refine lv_iconst (v := (1)) hx hb dX0_isFull_12 (by decide) ?_
    refine lv_goto (tgt := 17) hx hb dX0_isFull_13 (by decide) ?_
    obtain rfl := Option.some.inj h
    exact W.zret hx hb hr rfl (fun t ht hW => ⟨rfl, ht⟩) (fun q hq => absurd hq List.not_mem_nil) dX0_isFull_17

abbrev rm_X0_add : Room := { frames := 0, cells := 0, slots := 0, locals := 0 }
theorem ok_X0_add : okY yX0_add 1 := ⟨by decide +kernel, by decide +kernel, by decide +kernel⟩
set_option maxHeartbeats 4000000 in
set_option maxRecDepth 100000 in
theorem c_X0_add (l : Launch) (z0 : Nat) (D : va_G) (t : Nat → ClassId) (E : Nat → Nat) (μ : BS) (a1 : Int32) (res : (Int32) × (Nat → Int32)) (sz : Nat) (h : f_X0_add μ a1 = some res) : Met l yX0_add (ws_ yX0_add cX0_add 2 none) rm_X0_add (PM z0 D t [.ref (E 0), .int a1] (BW E t μ) (BL E) sz) (QM none D (BW E t (b_codes' (b_length' μ res.1) res.2)) (BL E) sz) 0 0 (OA (BL E) sz) := by
  refine Met.ofW (cc := cX0_add) (maxL := 2) (ret := none) (by decide) rfl ?_
  intro p e s m args below meth c s₁ Bo hml hv
  obtain ⟨rfl, hC, hsz, hP, hD, hZ⟩ := hv
  have hx := Bo.exec
  have hb := Bo.bytes
  have hr := Bo.returns
  have hts : ∀ w ∈ LA, w.before _ s = true := fun w hw => atoms_spec (ws := ws_ yX0_add cX0_add 2 none) Bo.pre w (List.mem_cons_of_mem _ hw)
  have hown : s.vm.findClass RX0 = some m.cls := findClass_of_methodNamed Bo.named
  have hlocks := Bo.notSynchronized
  have hK := hC.1
  subst hsz
  have hl := lv_entry ([.ref (E 0), .int a1]) (n := 2) (Nat.le_of_ble_eq_true rfl)
  rw [lg_entry_eq]
  generalize (lg_sl ([.ref (E 0), .int a1]) ++ List.replicate (2 - (lg_sl ([.ref (E 0), .int a1])).length) Slot.unset).toArray = ls at hl ⊢
  have hl : lv_has ls 2 [(0, .ref (E 0)), (1, .int a1)] := hl
  suffices K9 : ∀ (H : Heap) (locs : List Loc), va_P D vwCl (BW E t μ) H → va_S (OA (BL E) s.heap.size) s.heap H locs → W p l e (headSpec (ws_ yX0_add cX0_add 2 none) rm_X0_add).room s m ([.ref (E 0), .int a1] : List Value).toArray below meth c H locs 0 0 (MQ below (QM none D (BW E t (b_codes' (b_length' μ res.1) res.2)) (BL E) s.heap.size) ([.ref (E 0), .int a1] : List Value).toArray s 0 0 (OA (BL E) s.heap.size)) (F0 m 0 ls []) from K9 s.heap [] hP va_S.rf
  intro H locs hP hS
  have hSz : s.heap.size ≤ H.size := hS.1
  unfold f_X0_add at h
  refine lv_aload_n hx hb dX0_add_0 rfl (lv_at hl 0 rfl) ?_
  refine va_get hx hb hts inX0 hown hK hP 0 rfl rfl 0 (by decide) (hts _ qw67) (fun _ h9 => h9) rfl dX0_add_1 ?_
  refine lv_aload_n hx hb dX0_add_4 rfl (lv_at hl 0 rfl) ?_
  refine va_get hx hb hts inX0 hown hK hP 0 rfl rfl 1 (by decide) (hts _ qw69) (fun _ h9 => h9) rfl dX0_add_5 ?_
  refine va_alen hx hb hK hP 1 0 rfl rfl (v := 71) rfl dX0_add_8 ?_
  refine lv_icmp_ge (tgt := 32) hx hb dX0_add_9 (by decide) (fun hc => ?_) (fun hc => ?_)
  · have h := iteT hc h
    obtain rfl := Option.some.inj h
    exact W.vret hx hb hr (fun t ht hW => ⟨rfl, by rw [ht]; exact hP, hD, hS.F ht⟩) hS.2.2 dX0_add_32
  · have h := iteF hc h
    refine lv_aload_n hx hb dX0_add_12 rfl (lv_at hl 0 rfl) ?_
    refine va_get hx hb hts inX0 hown hK hP 0 rfl rfl 1 (by decide) (hts _ qw69) (fun _ h9 => h9) rfl dX0_add_13 ?_
    refine lv_aload_n hx hb dX0_add_16 rfl (lv_at hl 0 rfl) ?_
    refine va_get hx hb hts inX0 hown hK hP 0 rfl rfl 0 (by decide) (hts _ qw67) (fun _ h9 => h9) rfl dX0_add_17 ?_
    refine lv_iload_n hx hb dX0_add_20 rfl (lv_at hl 1 rfl) ?_
    obtain ⟨f1, ef1, h⟩ := obind h
    refine k_iast (ws' := (BW E t (b_codes' μ f1))) hx hb hK hP hD hS 1 rfl ef1 rfl dX0_add_21 (fun H locs hP hD hS => ?_)
    have hSz : s.heap.size ≤ H.size := hS.1
    refine lv_aload_n hx hb dX0_add_22 rfl (lv_at hl 0 rfl) ?_
    refine lv_dup hx hb dX0_add_23 rfl ?_
    refine va_get hx hb hts inX0 hown hK hP 0 rfl rfl 0 (by decide) (hts _ qw67) (fun _ h9 => h9) rfl dX0_add_24 ?_
    refine lv_iconst (v := (1)) hx hb dX0_add_27 (by decide) ?_
    refine lv_iadd hx hb dX0_add_28 ?_
    obtain ⟨x2, ex2, h⟩ := jlet_some h
    refine topI ex2 ?_
    refine va_put (D := D) (ci := 1) (v := .int x2) (ty := .int) hx hb hts inX0 tyX0 tyX0_ok nmX0 hown hK hP hD hS 0 rfl rfl 0 (by decide) (hts _ qw67) (fun _ h9 => h9) rfl (by decide +kernel) rfl rfl (Nat.le_of_ble_eq_true rfl) dX0_add_29 (fun H locs hP hD hS => ?_)
    have hP : va_P D vwCl (BW E t (b_codes' (b_length' μ x2) f1)) H := hP
    have hD : va_D (OA (BL E) s.heap.size) (BW E t (b_codes' (b_length' μ x2) f1)) := hD
    have hSz : s.heap.size ≤ H.size := hS.1
    obtain rfl := Option.some.inj h
    exact W.vret hx hb hr (fun t ht hW => ⟨rfl, by rw [ht]; exact hP, hD, hS.F ht⟩) hS.2.2 dX0_add_32

abbrev rm_X3_isWhole : Room := { frames := 1, cells := 0, slots := 0, locals := 20 }
theorem ok_X3_isWhole : okY yX3_isWhole 0 := ⟨by decide +kernel, by decide +kernel, by decide +kernel⟩
set_option maxHeartbeats 4000000 in
set_option maxRecDepth 100000 in
theorem c_X3_isWhole (l : Launch) (z0 : Nat) (D : va_G) (t : Nat → ClassId) (r0 : Nat) (μ : RDS) (res : Int32) (h : f_X3_isWhole μ = some res) : Met l yX3_isWhole (ws_ yX3_isWhole cX3_isWhole 1 (some .boolean)) rm_X3_isWhole (PR z0 D t [.ref r0] (RDW r0 t μ)) (QR (some (.int res))) 0 0 FN := by
  refine Met.ofW (cc := cX3_isWhole) (maxL := 1) (ret := (some .boolean)) (by decide) rfl ?_
  intro p e s m args below meth c s₁ Bo hml hv
  obtain ⟨rfl, hC, hP⟩ := hv
  have hx := Bo.exec
  have hb := Bo.bytes
  have hr := Bo.returns
  have hts : ∀ w ∈ LA, w.before _ s = true := fun w hw => atoms_spec (ws := ws_ yX3_isWhole cX3_isWhole 1 (some .boolean)) Bo.pre w (List.mem_cons_of_mem _ hw)
  have hown : s.vm.findClass RX3 = some m.cls := findClass_of_methodNamed Bo.named
  have hlocks := Bo.notSynchronized
  have hK := hC.1
  have hl := lv_entry ([.ref r0]) (n := 1) (Nat.le_of_ble_eq_true rfl)
  rw [lg_entry_eq]
  generalize (lg_sl ([.ref r0]) ++ List.replicate (1 - (lg_sl ([.ref r0])).length) Slot.unset).toArray = ls at hl ⊢
  have hl : lv_has ls 1 [(0, .ref (r0))] := hl
  unfold f_X3_isWhole at h
  refine lv_aload_n hx hb dX3_isWhole_0 rfl (lv_at hl 0 rfl) ?_
  refine va_get hx hb hts inX3 hown hK hP 0 rfl rfl 1 (by decide) (hts _ qw183) (fun _ h9 => h9) rfl dX3_isWhole_1 ?_
  refine lv_iconst (v := (1)) hx hb dX3_isWhole_4 (by decide) ?_
  refine lv_iadd hx hb dX3_isWhole_5 ?_
  refine lv_iconst (v := (2)) hx hb dX3_isWhole_6 (by decide) ?_
  refine lv_icmp_lt (tgt := 29) hx hb dX3_isWhole_7 (by decide) (fun hc => ?_) (fun hc => ?_)
  · have h := iteT hc h
    refine lv_iconst (v := (0)) hx hb dX3_isWhole_29 (by decide) ?_
    obtain rfl := Option.some.inj h
    exact W.zret hx hb hr rfl (fun t ht hW => ⟨rfl, ht⟩) (fun q hq => absurd hq List.not_mem_nil) dX3_isWhole_30
  · have h := iteF hc h
    refine lv_aload_n hx hb dX3_isWhole_10 rfl (lv_at hl 0 rfl) ?_
    obtain ⟨r1, er1, h⟩ := obind h
    refine call_R (va_runV (As := []) (rest := []) ⟨hx, hb, hml, hown, hts⟩ (c_X3_isRowWhole l z0 D t r0 μ _ er1) (kV hts qw213 qw215 qs0 qw20 qw216 ok_X3_isRowWhole ⟨Nat.le_of_ble_eq_true rfl, Nat.le_of_ble_eq_true rfl⟩) ⟨PR.blind, va_recv hK hP (ci := 4) (q0 := 0) rfl rfl, fun U hU hW => ⟨rfl, by rw [hU]; exact hC.warm hW, by rw [hU]; exact hP⟩⟩ rfl rfl hl.1 rfl (lv_room (Nat.le_of_ble_eq_true rfl)) dX3_isWhole_11 ⟨Nat.le_of_ble_eq_true rfl, Nat.le_of_ble_eq_true rfl⟩) ?_
    refine lv_if_eq (tgt := 29) hx hb dX3_isWhole_14 (by decide) (fun hc => ?_) (fun hc => ?_)
    · have h := iteT hc h
      refine lv_iconst (v := (0)) hx hb dX3_isWhole_29 (by decide) ?_
      obtain rfl := Option.some.inj h
      exact W.zret hx hb hr rfl (fun t ht hW => ⟨rfl, ht⟩) (fun q hq => absurd hq List.not_mem_nil) dX3_isWhole_30
    · have h := iteF hc h
      refine lv_aload_n hx hb dX3_isWhole_17 rfl (lv_at hl 0 rfl) ?_
      refine va_get hx hb hts inX3 hown hK hP 0 rfl rfl 2 (by decide) (hts _ qw185) (fun _ h9 => h9) rfl dX3_isWhole_18 ?_
      refine lv_iconst (v := (-1)) hx hb dX3_isWhole_21 (by decide) ?_
      refine lv_icmp_eq (tgt := 29) hx hb dX3_isWhole_22 (by decide) (fun hc => ?_) (fun hc => ?_)
      · have h := iteT hc h
        refine lv_iconst (v := (0)) hx hb dX3_isWhole_29 (by decide) ?_
        obtain rfl := Option.some.inj h
        exact W.zret hx hb hr rfl (fun t ht hW => ⟨rfl, ht⟩) (fun q hq => absurd hq List.not_mem_nil) dX3_isWhole_30
      · have h := iteF hc h
        refine lv_iconst (v := (1)) hx hb dX3_isWhole_25 (by decide) ?_
        refine lv_goto (tgt := 30) hx hb dX3_isWhole_26 (by decide) ?_
        obtain rfl := Option.some.inj h
        exact W.zret hx hb hr rfl (fun t ht hW => ⟨rfl, ht⟩) (fun q hq => absurd hq List.not_mem_nil) dX3_isWhole_30

abbrev rm_X1_kindOf : Room := { frames := 1, cells := 0, slots := 0, locals := 20 }
theorem ok_X1_kindOf : okY yX1_kindOf 1 := ⟨by decide +kernel, by decide +kernel, by decide +kernel⟩
set_option maxHeartbeats 4000000 in
set_option maxRecDepth 100000 in
theorem c_X1_kindOf (l : Launch) (z0 : Nat) (D : va_G) (t : Nat → ClassId) (G : Nat → Nat) (μ : GS) (a1 : Int64) (res : Int32) (h : f_X1_kindOf μ a1 = some res) : Met l yX1_kindOf (ws_ yX1_kindOf cX1_kindOf 3 (some .int)) rm_X1_kindOf (PR z0 D t [.ref (G 0), .long a1] (GW G t μ)) (QR (some (.int res))) 0 0 FN := by
  refine Met.ofW (cc := cX1_kindOf) (maxL := 3) (ret := (some .int)) (by decide) rfl ?_
  intro p e s m args below meth c s₁ Bo hml hv
  obtain ⟨rfl, hC, hP⟩ := hv
  have hx := Bo.exec
  have hb := Bo.bytes
  have hr := Bo.returns
  have hts : ∀ w ∈ LA, w.before _ s = true := fun w hw => atoms_spec (ws := ws_ yX1_kindOf cX1_kindOf 3 (some .int)) Bo.pre w (List.mem_cons_of_mem _ hw)
  have hown : s.vm.findClass RX1 = some m.cls := findClass_of_methodNamed Bo.named
  have hlocks := Bo.notSynchronized
  have hK := hC.1
  have hl := lv_entry ([.ref (G 0), .long a1]) (n := 3) (Nat.le_of_ble_eq_true rfl)
  rw [lg_entry_eq]
  generalize (lg_sl ([.ref (G 0), .long a1]) ++ List.replicate (3 - (lg_sl ([.ref (G 0), .long a1])).length) Slot.unset).toArray = ls at hl ⊢
  have hl : lv_has ls 3 [(0, .ref (G 0)), (1, .long a1)] := hl
  unfold f_X1_kindOf at h
  refine lv_lload_n hx hb dX1_kindOf_0 rfl (lv_at hl 1 rfl) ?_
  refine lv_aload_n hx hb dX1_kindOf_1 rfl (lv_at hl 0 rfl) ?_
  obtain ⟨r1, er1, h⟩ := obind h
  refine call_R (va_runV (As := []) (rest := [.long a1]) ⟨hx, hb, hml, hown, hts⟩ (c_X1_pondCell l z0 D t G μ _ er1) (kV hts qw244 qw245 qw246 qw8 qw247 ok_X1_pondCell ⟨Nat.le_of_ble_eq_true rfl, Nat.le_of_ble_eq_true rfl⟩) ⟨PR.blind, va_recv hK hP (ci := 2) (q0 := 0) rfl rfl, fun U hU hW => ⟨rfl, by rw [hU]; exact hC.warm hW, by rw [hU]; exact hP⟩⟩ rfl rfl hl.1 rfl (lv_room (Nat.le_of_ble_eq_true rfl)) dX1_kindOf_2 ⟨Nat.le_of_ble_eq_true rfl, Nat.le_of_ble_eq_true rfl⟩) ?_
  refine lv_land hx hb dX1_kindOf_5 ?_
  refine lv_lconst (v := (0)) hx hb dX1_kindOf_6 (by decide) ?_
  refine W.lcmp hx hb dX1_kindOf_7 ?_
  refine lv_if_eq (tgt := 13) hx hb dX1_kindOf_8 (by decide) (fun hc => ?_) (fun hc => ?_)
  · have h := iteT hc h
    refine lv_lload_n hx hb dX1_kindOf_13 rfl (lv_at hl 1 rfl) ?_
    refine lv_aload_n hx hb dX1_kindOf_14 rfl (lv_at hl 0 rfl) ?_
    refine va_get hx hb hts inX1 hown hK hP 0 rfl rfl 3 (by decide) (hts _ qw125) (fun _ h9 => h9) rfl dX1_kindOf_15 ?_
    refine lv_land hx hb dX1_kindOf_18 ?_
    refine lv_lconst (v := (0)) hx hb dX1_kindOf_19 (by decide) ?_
    refine W.lcmp hx hb dX1_kindOf_20 ?_
    refine lv_if_eq (tgt := 26) hx hb dX1_kindOf_21 (by decide) (fun hc => ?_) (fun hc => ?_)
    · have h := iteT hc h
      refine lv_lload_n hx hb dX1_kindOf_26 rfl (lv_at hl 1 rfl) ?_
      refine lv_aload_n hx hb dX1_kindOf_27 rfl (lv_at hl 0 rfl) ?_
      refine va_get hx hb hts inX1 hown hK hP 0 rfl rfl 4 (by decide) (hts _ qw127) (fun _ h9 => h9) rfl dX1_kindOf_28 ?_
      refine lv_land hx hb dX1_kindOf_31 ?_
      refine lv_lconst (v := (0)) hx hb dX1_kindOf_32 (by decide) ?_
      refine W.lcmp hx hb dX1_kindOf_33 ?_
      refine lv_if_eq (tgt := 41) hx hb dX1_kindOf_34 (by decide) (fun hc => ?_) (fun hc => ?_)
      · have h := iteT hc h
        refine lv_iconst (v := (0)) hx hb dX1_kindOf_41 (by decide) ?_
        obtain rfl := Option.some.inj h
        exact W.iret hx hb hr (fun t ht hW => ⟨rfl, ht⟩) (fun q hq => absurd hq List.not_mem_nil) dX1_kindOf_42
      · have h := iteF hc h
        refine lv_iconst (v := (3)) hx hb dX1_kindOf_37 (by decide) ?_
        refine lv_goto (tgt := 42) hx hb dX1_kindOf_38 (by decide) ?_
        obtain rfl := Option.some.inj h
        exact W.iret hx hb hr (fun t ht hW => ⟨rfl, ht⟩) (fun q hq => absurd hq List.not_mem_nil) dX1_kindOf_42
    · have h := iteF hc h
      refine lv_iconst (v := (2)) hx hb dX1_kindOf_24 (by decide) ?_
      obtain rfl := Option.some.inj h
      exact W.iret hx hb hr (fun t ht hW => ⟨rfl, ht⟩) (fun q hq => absurd hq List.not_mem_nil) dX1_kindOf_25
  · have h := iteF hc h
    refine lv_iconst (v := (1)) hx hb dX1_kindOf_11 (by decide) ?_
    obtain rfl := Option.some.inj h
    exact W.iret hx hb hr (fun t ht hW => ⟨rfl, ht⟩) (fun q hq => absurd hq List.not_mem_nil) dX1_kindOf_12

abbrev rm_X1_coverX : Room := { frames := 0, cells := 0, slots := 0, locals := 0 }
theorem ok_X1_coverX : okY yX1_coverX 2 := ⟨by decide +kernel, by decide +kernel, by decide +kernel⟩
set_option maxHeartbeats 4000000 in
set_option maxRecDepth 100000 in
theorem c_X1_coverX (l : Launch) (z0 : Nat) (D : va_G) (t : Nat → ClassId) (a1 : Int32) (a2 : Int32) (res : Int32) (h : f_X1_coverX a1 a2 = some res) : Met l yX1_coverX (ws_ yX1_coverX cX1_coverX 2 (some .int)) rm_X1_coverX (PR z0 D t [.int a1, .int a2] []) (QR (some (.int res))) 0 0 FN := by
  refine Met.ofW (cc := cX1_coverX) (maxL := 2) (ret := (some .int)) (by decide) rfl ?_
  intro p e s m args below meth c s₁ Bo hml hv
  obtain ⟨rfl, hC, hP⟩ := hv
  have hx := Bo.exec
  have hb := Bo.bytes
  have hr := Bo.returns
  have hts : ∀ w ∈ LA, w.before _ s = true := fun w hw => atoms_spec (ws := ws_ yX1_coverX cX1_coverX 2 (some .int)) Bo.pre w (List.mem_cons_of_mem _ hw)
  have hown : s.vm.findClass RX1 = some m.cls := findClass_of_methodNamed Bo.named
  have hlocks := Bo.notSynchronized
  have hK := hC.1
  have hl := lv_entry ([.int a1, .int a2]) (n := 2) (Nat.le_of_ble_eq_true rfl)
  rw [lg_entry_eq]
  generalize (lg_sl ([.int a1, .int a2]) ++ List.replicate (2 - (lg_sl ([.int a1, .int a2])).length) Slot.unset).toArray = ls at hl ⊢
  have hl : lv_has ls 2 [(0, .int a1), (1, .int a2)] := hl
  unfold f_X1_coverX at h
  refine lv_iload_n hx hb dX1_coverX_0 rfl (lv_at hl 0 rfl) ?_
  refine lv_bipush (v := (8)) hx hb dX1_coverX_1 (by decide) ?_
  refine lv_irem hx hb dX1_coverX_3 (by decide) ?_
  refine lv_iload_n hx hb dX1_coverX_4 rfl (lv_at hl 1 rfl) ?_
  refine lv_iconst (v := (2)) hx hb dX1_coverX_5 (by decide) ?_
  refine lv_irem hx hb dX1_coverX_6 (by decide) ?_
  refine lv_isub hx hb dX1_coverX_7 ?_
  obtain rfl := Option.some.inj h
  exact W.iret hx hb hr (fun t ht hW => ⟨rfl, ht⟩) (fun q hq => absurd hq List.not_mem_nil) dX1_coverX_8

abbrev rm_X1_coverY : Room := { frames := 0, cells := 0, slots := 0, locals := 0 }
theorem ok_X1_coverY : okY yX1_coverY 2 := ⟨by decide +kernel, by decide +kernel, by decide +kernel⟩
set_option maxHeartbeats 4000000 in
set_option maxRecDepth 100000 in
theorem c_X1_coverY (l : Launch) (z0 : Nat) (D : va_G) (t : Nat → ClassId) (a1 : Int32) (a2 : Int32) (res : Int32) (h : f_X1_coverY a1 a2 = some res) : Met l yX1_coverY (ws_ yX1_coverY cX1_coverY 2 (some .int)) rm_X1_coverY (PR z0 D t [.int a1, .int a2] []) (QR (some (.int res))) 0 0 FN := by
  refine Met.ofW (cc := cX1_coverY) (maxL := 2) (ret := (some .int)) (by decide) rfl ?_
  intro p e s m args below meth c s₁ Bo hml hv
  obtain ⟨rfl, hC, hP⟩ := hv
  have hx := Bo.exec
  have hb := Bo.bytes
  have hr := Bo.returns
  have hts : ∀ w ∈ LA, w.before _ s = true := fun w hw => atoms_spec (ws := ws_ yX1_coverY cX1_coverY 2 (some .int)) Bo.pre w (List.mem_cons_of_mem _ hw)
  have hown : s.vm.findClass RX1 = some m.cls := findClass_of_methodNamed Bo.named
  have hlocks := Bo.notSynchronized
  have hK := hC.1
  have hl := lv_entry ([.int a1, .int a2]) (n := 2) (Nat.le_of_ble_eq_true rfl)
  rw [lg_entry_eq]
  generalize (lg_sl ([.int a1, .int a2]) ++ List.replicate (2 - (lg_sl ([.int a1, .int a2])).length) Slot.unset).toArray = ls at hl ⊢
  have hl : lv_has ls 2 [(0, .int a1), (1, .int a2)] := hl
  unfold f_X1_coverY at h
  refine lv_iload_n hx hb dX1_coverY_0 rfl (lv_at hl 0 rfl) ?_
  refine lv_bipush (v := (8)) hx hb dX1_coverY_1 (by decide) ?_
  refine lv_idiv hx hb dX1_coverY_3 (by decide) ?_
  refine lv_iload_n hx hb dX1_coverY_4 rfl (lv_at hl 1 rfl) ?_
  refine lv_iconst (v := (2)) hx hb dX1_coverY_5 (by decide) ?_
  refine lv_idiv hx hb dX1_coverY_6 (by decide) ?_
  refine lv_iconst (v := (2)) hx hb dX1_coverY_7 (by decide) ?_
  refine lv_irem hx hb dX1_coverY_8 (by decide) ?_
  refine lv_isub hx hb dX1_coverY_9 ?_
  obtain rfl := Option.some.inj h
  exact W.iret hx hb hr (fun t ht hW => ⟨rfl, ht⟩) (fun q hq => absurd hq List.not_mem_nil) dX1_coverY_10

abbrev rm_X1_couldCover : Room := { frames := 2, cells := 0, slots := 0, locals := 65 }
theorem ok_X1_couldCover : okY yX1_couldCover 2 := ⟨by decide +kernel, by decide +kernel, by decide +kernel⟩
set_option maxHeartbeats 4000000 in
set_option maxRecDepth 100000 in
theorem c_X1_couldCover (l : Launch) (z0 : Nat) (D : va_G) (t : Nat → ClassId) (G : Nat → Nat) (μ : GS) (a1 : Int32) (a2 : Int32) (res : Int32) (h : f_X1_couldCover μ a1 a2 = some res) : Met l yX1_couldCover (ws_ yX1_couldCover cX1_couldCover 6 (some .boolean)) rm_X1_couldCover (PR z0 D t [.ref (G 0), .int a1, .int a2] (GW G t μ)) (QR (some (.int res))) 0 0 FN := by
  refine Met.ofW (cc := cX1_couldCover) (maxL := 6) (ret := (some .boolean)) (by decide) rfl ?_
  intro p e s m args below meth c s₁ Bo hml hv
  obtain ⟨rfl, hC, hP⟩ := hv
  have hx := Bo.exec
  have hb := Bo.bytes
  have hr := Bo.returns
  have hts : ∀ w ∈ LA, w.before _ s = true := fun w hw => atoms_spec (ws := ws_ yX1_couldCover cX1_couldCover 6 (some .boolean)) Bo.pre w (List.mem_cons_of_mem _ hw)
  have hown : s.vm.findClass RX1 = some m.cls := findClass_of_methodNamed Bo.named
  have hlocks := Bo.notSynchronized
  have hK := hC.1
  have hl := lv_entry ([.ref (G 0), .int a1, .int a2]) (n := 6) (Nat.le_of_ble_eq_true rfl)
  rw [lg_entry_eq]
  generalize (lg_sl ([.ref (G 0), .int a1, .int a2]) ++ List.replicate (6 - (lg_sl ([.ref (G 0), .int a1, .int a2])).length) Slot.unset).toArray = ls at hl ⊢
  have hl : lv_has ls 6 [(0, .ref (G 0)), (1, .int a1), (2, .int a2)] := hl
  unfold f_X1_couldCover at h
  refine lv_iload_n hx hb dX1_couldCover_0 rfl (lv_at hl 1 rfl) ?_
  refine lv_iload_n hx hb dX1_couldCover_1 rfl (lv_at hl 2 rfl) ?_
  obtain ⟨r1, er1, h⟩ := obind h
  refine call_R (va_runS (As := [.int a1, .int a2]) (rest := []) ⟨hx, hb, hml, hown, hts⟩ (c_X1_coverX l z0 D t a1 a2 _ er1) (kS hts qw780 qw781 qw8 qw782 ok_X1_coverX ⟨Nat.le_of_ble_eq_true rfl, Nat.le_of_ble_eq_true rfl⟩) ⟨PR.blind, fun U hU hW => ⟨rfl, by rw [hU]; exact hC.warm hW, by rw [hU]; exact va_P_nil⟩⟩ rfl rfl hl.1 rfl (lv_room (Nat.le_of_ble_eq_true rfl)) dX1_couldCover_2 ⟨Nat.le_of_ble_eq_true rfl, Nat.le_of_ble_eq_true rfl⟩) ?_
  refine lv_istore_n (lv' := [(3, .int r1), (0, .ref (G 0)), (1, .int a1), (2, .int a2)]) hx hb dX1_couldCover_5 rfl hl (by decide) rfl (fun ls hl => ?_)
  refine lv_iload_n hx hb dX1_couldCover_6 rfl (lv_at hl 2 rfl) ?_
  refine lv_iload_n hx hb dX1_couldCover_7 rfl (lv_at hl 3 rfl) ?_
  obtain ⟨r2, er2, h⟩ := obind h
  refine call_R (va_runS (As := [.int a1, .int a2]) (rest := []) ⟨hx, hb, hml, hown, hts⟩ (c_X1_coverY l z0 D t a1 a2 _ er2) (kS hts qw783 qw784 qw8 qw785 ok_X1_coverY ⟨Nat.le_of_ble_eq_true rfl, Nat.le_of_ble_eq_true rfl⟩) ⟨PR.blind, fun U hU hW => ⟨rfl, by rw [hU]; exact hC.warm hW, by rw [hU]; exact va_P_nil⟩⟩ rfl rfl hl.1 rfl (lv_room (Nat.le_of_ble_eq_true rfl)) dX1_couldCover_8 ⟨Nat.le_of_ble_eq_true rfl, Nat.le_of_ble_eq_true rfl⟩) ?_
  refine lv_istore (lv' := [(4, .int r2), (3, .int r1), (0, .ref (G 0)), (1, .int a1), (2, .int a2)]) hx hb dX1_couldCover_11 hl (by decide) rfl (fun ls hl => ?_)
  refine lv_iload_n hx hb dX1_couldCover_13 rfl (lv_at hl 4 rfl) ?_
  refine lv_iconst (v := (4)) hx hb dX1_couldCover_14 (by decide) ?_
  refine lv_idiv hx hb dX1_couldCover_15 (by decide) ?_
  obtain ⟨x3, ex3, h⟩ := jlet_some h
  refine topI ex3 ?_
  refine lv_istore (lv' := [(5, .int x3), (4, .int r2), (3, .int r1), (0, .ref (G 0)), (1, .int a1), (2, .int a2)]) hx hb dX1_couldCover_16 hl (by decide) rfl (fun ls hl => ?_)
  refine lv_aload_n hx hb dX1_couldCover_18 rfl (lv_at hl 3 rfl) ?_
  refine lv_iload_n hx hb dX1_couldCover_19 rfl (lv_at hl 2 rfl) ?_
  refine lv_iload hx hb dX1_couldCover_20 (lv_at hl 1 rfl) ?_
  refine lv_iload hx hb dX1_couldCover_22 (lv_at hl 0 rfl) ?_
  obtain ⟨r4, er4, h⟩ := obind h
  refine call_R (va_runV (As := [.int r1, .int r2, .int x3]) (rest := []) ⟨hx, hb, hml, hown, hts⟩ (c_X1_whyRefused l z0 D t G μ r1 r2 x3 _ er4) (kV hts qw786 qw617 qw618 qw8 qw619 ok_X1_whyRefused ⟨Nat.le_of_ble_eq_true rfl, Nat.le_of_ble_eq_true rfl⟩) ⟨PR.blind, va_recv hK hP (ci := 2) (q0 := 0) rfl rfl, fun U hU hW => ⟨rfl, by rw [hU]; exact hC.warm hW, by rw [hU]; exact hP⟩⟩ rfl rfl hl.1 rfl (lv_room (Nat.le_of_ble_eq_true rfl)) dX1_couldCover_24 ⟨Nat.le_of_ble_eq_true rfl, Nat.le_of_ble_eq_true rfl⟩) ?_
  refine lv_if_ne (tgt := 49) hx hb dX1_couldCover_27 (by decide) (fun hc => ?_) (fun hc => ?_)
  · have h := iteF hc h
    refine lv_iconst (v := (0)) hx hb dX1_couldCover_49 (by decide) ?_
    obtain rfl := Option.some.inj h
    exact W.zret hx hb hr rfl (fun t ht hW => ⟨rfl, ht⟩) (fun q hq => absurd hq List.not_mem_nil) dX1_couldCover_50
  · have h := iteT hc h
    refine lv_iload_n hx hb dX1_couldCover_30 rfl (lv_at hl 2 rfl) ?_
    refine lv_iload hx hb dX1_couldCover_31 (lv_at hl 1 rfl) ?_
    refine lv_iload hx hb dX1_couldCover_33 (lv_at hl 0 rfl) ?_
    obtain ⟨r5, er5, h⟩ := obind h
    refine call_R (va_runSN (As := [.int r1, .int r2, .int x3]) (rest := []) ⟨hx, hb, hml, hown, hts⟩ (c_X4_cellsOf l z0 D t r1 r2 x3 _ er5) ⟨kN hts (hC.2.1 _ qw621) qw1 qw307 ok_X4_cellsOf ⟨Nat.le_of_ble_eq_true rfl, Nat.le_of_ble_eq_true rfl⟩, hts _ qw306, trivial⟩ ⟨PR.blind, fun U hU hW => ⟨rfl, by rw [hU]; exact hC.warm hW, by rw [hU]; exact va_P_nil⟩⟩ rfl rfl hl.1 rfl (lv_room (Nat.le_of_ble_eq_true rfl)) dX1_couldCover_35 ⟨Nat.le_of_ble_eq_true rfl, Nat.le_of_ble_eq_true rfl⟩) ?_
    refine lv_iload_n hx hb dX1_couldCover_38 rfl (lv_at hl 4 rfl) ?_
    obtain ⟨r6, er6, h⟩ := obind h
    refine call_R (va_runSN (As := [.long r5, .int a1]) (rest := []) ⟨hx, hb, hml, hown, hts⟩ (c_X4_holds l z0 D t r5 a1 _ er6) ⟨kN hts (hC.2.1 _ qw787) qw1 qw297 ok_X4_holds ⟨Nat.le_of_ble_eq_true rfl, Nat.le_of_ble_eq_true rfl⟩, hts _ qw296, trivial⟩ ⟨PR.blind, fun U hU hW => ⟨rfl, by rw [hU]; exact hC.warm hW, by rw [hU]; exact va_P_nil⟩⟩ rfl rfl hl.1 rfl (lv_room (Nat.le_of_ble_eq_true rfl)) dX1_couldCover_39 ⟨Nat.le_of_ble_eq_true rfl, Nat.le_of_ble_eq_true rfl⟩) ?_
    refine lv_if_eq (tgt := 49) hx hb dX1_couldCover_42 (by decide) (fun hc => ?_) (fun hc => ?_)
    · have h := iteT hc h
      refine lv_iconst (v := (0)) hx hb dX1_couldCover_49 (by decide) ?_
      obtain rfl := Option.some.inj h
      exact W.zret hx hb hr rfl (fun t ht hW => ⟨rfl, ht⟩) (fun q hq => absurd hq List.not_mem_nil) dX1_couldCover_50
    · have h := iteF hc h
      refine lv_iconst (v := (1)) hx hb dX1_couldCover_45 (by decide) ?_
      refine lv_goto (tgt := 50) hx hb dX1_couldCover_46 (by decide) ?_
      obtain rfl := Option.some.inj h
      exact W.zret hx hb hr rfl (fun t ht hW => ⟨rfl, ht⟩) (fun q hq => absurd hq List.not_mem_nil) dX1_couldCover_50

abbrev rm_X1_coverCount : Room := { frames := 3, cells := 0, slots := 0, locals := 90 }
theorem ok_X1_coverCount : okY yX1_coverCount 1 := ⟨by decide +kernel, by decide +kernel, by decide +kernel⟩
set_option maxHeartbeats 4000000 in
set_option maxRecDepth 100000 in
theorem c_X1_coverCount (l : Launch) (z0 : Nat) (D : va_G) (t : Nat → ClassId) (G : Nat → Nat) (μ : GS) (a1 : Int32) (res : Int32) (h : f_X1_coverCount μ a1 = some res) : Met l yX1_coverCount (ws_ yX1_coverCount cX1_coverCount 4 (some .int)) rm_X1_coverCount (PR z0 D t [.ref (G 0), .int a1] (GW G t μ)) (QR (some (.int res))) 0 0 FN := by
  refine Met.ofW (cc := cX1_coverCount) (maxL := 4) (ret := (some .int)) (by decide) rfl ?_
  intro p e s m args below meth c s₁ Bo hml hv
  obtain ⟨rfl, hC, hP⟩ := hv
  have hx := Bo.exec
  have hb := Bo.bytes
  have hr := Bo.returns
  have hts : ∀ w ∈ LA, w.before _ s = true := fun w hw => atoms_spec (ws := ws_ yX1_coverCount cX1_coverCount 4 (some .int)) Bo.pre w (List.mem_cons_of_mem _ hw)
  have hown : s.vm.findClass RX1 = some m.cls := findClass_of_methodNamed Bo.named
  have hlocks := Bo.notSynchronized
  have hK := hC.1
  have hl := lv_entry ([.ref (G 0), .int a1]) (n := 4) (Nat.le_of_ble_eq_true rfl)
  rw [lg_entry_eq]
  generalize (lg_sl ([.ref (G 0), .int a1]) ++ List.replicate (4 - (lg_sl ([.ref (G 0), .int a1])).length) Slot.unset).toArray = ls at hl ⊢
  have hl : lv_has ls 4 [(0, .ref (G 0)), (1, .int a1)] := hl
  unfold f_X1_coverCount at h
  refine lv_iconst (v := (0)) hx hb dX1_coverCount_0 (by decide) ?_
  refine lv_istore_n (lv' := [(2, .int (0 : Int32)), (0, .ref (G 0)), (1, .int a1)]) hx hb dX1_coverCount_1 rfl hl (by decide) rfl (fun ls hl => ?_)
  refine lv_iconst (v := (0)) hx hb dX1_coverCount_2 (by decide) ?_
  refine lv_istore_n (lv' := [(3, .int (0 : Int32)), (2, .int (0 : Int32)), (0, .ref (G 0)), (1, .int a1)]) hx hb dX1_coverCount_3 rfl hl (by decide) rfl (fun ls hl => ?_)
  obtain ⟨o9, eo9, h⟩ := obind h
  have hL4 : ∀ (n : Nat) (y2_4 : Int32) (y3_4 : Int32) (o9 : Int32), f_X1_coverCount_L4 a1 μ n y2_4 y3_4 = some o9 → (∀ (ls : Array Slot), lv_has ls 4 [(2, .int o9)] → W p l e (headSpec (ws_ yX1_coverCount cX1_coverCount 4 (some .int)) rm_X1_coverCount).room s m ([.ref (G 0), .int a1] : List Value).toArray below meth c s.heap [] 0 0 (MQ below (QR (some (.int res))) ([.ref (G 0), .int a1] : List Value).toArray s 0 0 FN) (F0 m 33 ls [])) → ∀ (ls : Array Slot), lv_has ls 4 [(0, .ref (G 0)), (1, .int a1), (2, .int y2_4), (3, .int y3_4)] → W p l e (headSpec (ws_ yX1_coverCount cX1_coverCount 4 (some .int)) rm_X1_coverCount).room s m ([.ref (G 0), .int a1] : List Value).toArray below meth c s.heap [] 0 0 (MQ below (QR (some (.int res))) ([.ref (G 0), .int a1] : List Value).toArray s 0 0 FN) (F0 m 4 ls []) := by
    intro n
    induction n with
    | zero => intro y2_4 y3_4 o9 h; exact absurd h (fun z => by cases z)
    | succ n ih =>
      intro y2_4 y3_4 o9 h hK4 ls hl
      replace h : f_X1_coverCount_L4_b a1 μ (f_X1_coverCount_L4 a1 μ n) y2_4 y3_4 = some o9 := h
      unfold f_X1_coverCount_L4_b at h
      refine lv_iload_n hx hb dX1_coverCount_4 rfl (lv_at hl 3 rfl) ?_
      refine lv_bipush (v := (16)) hx hb dX1_coverCount_5 (by decide) ?_
      refine lv_icmp_ge (tgt := 33) hx hb dX1_coverCount_7 (by decide) (fun hc => ?_) (fun hc => ?_)
      · have h := iteT hc h
        obtain rfl := Option.some.inj h
        exact hK4 ls (lv_sub hl [2] rfl)
      · have h := iteF hc h
        refine lv_iload_n hx hb dX1_coverCount_10 rfl (lv_at hl 2 rfl) ?_
        refine lv_aload_n hx hb dX1_coverCount_11 rfl (lv_at hl 0 rfl) ?_
        refine lv_iload_n hx hb dX1_coverCount_12 rfl (lv_at hl 1 rfl) ?_
        refine lv_iload_n hx hb dX1_coverCount_13 rfl (lv_at hl 3 rfl) ?_
        obtain ⟨r10, er10, h⟩ := obind h
        refine call_R (va_runV (As := [.int a1, .int y3_4]) (rest := [.int y2_4]) ⟨hx, hb, hml, hown, hts⟩ (c_X1_couldCover l z0 D t G μ a1 y3_4 _ er10) (kV hts qw776 qw778 qs23 qw8 qw779 ok_X1_couldCover ⟨Nat.le_of_ble_eq_true rfl, Nat.le_of_ble_eq_true rfl⟩) ⟨PR.blind, va_recv hK hP (ci := 2) (q0 := 0) rfl rfl, fun U hU hW => ⟨rfl, by rw [hU]; exact hC.warm hW, by rw [hU]; exact hP⟩⟩ rfl rfl hl.1 rfl (lv_room (Nat.le_of_ble_eq_true rfl)) dX1_coverCount_14 ⟨Nat.le_of_ble_eq_true rfl, Nat.le_of_ble_eq_true rfl⟩) ?_
        obtain ⟨o11, eo11, h⟩ := obind h
        have hJ25_o11 : ∀ ls : Array Slot, lv_has ls 4 [(0, .ref (G 0)), (1, .int a1), (3, .int y3_4)] → W p l e (headSpec (ws_ yX1_coverCount cX1_coverCount 4 (some .int)) rm_X1_coverCount).room s m ([.ref (G 0), .int a1] : List Value).toArray below meth c s.heap [] 0 0 (MQ below (QR (some (.int res))) ([.ref (G 0), .int a1] : List Value).toArray s 0 0 FN) (F0 m 25 ls [.int o11, .int y2_4]) := by
          intro ls hl
          refine lv_iadd hx hb dX1_coverCount_25 ?_
          obtain ⟨x12, ex12, h⟩ := jlet_some h
          refine topI ex12 ?_
          refine lv_istore_n (lv' := [(2, .int x12), (0, .ref (G 0)), (1, .int a1), (3, .int y3_4)]) hx hb dX1_coverCount_26 rfl hl (by decide) rfl (fun ls hl => ?_)
          obtain ⟨x13, ex13, h⟩ := jlet_some h
          refine lv_iinc (v := x13) (lv' := [(3, .int x13), (2, .int x12), (0, .ref (G 0)), (1, .int a1)]) hx hb dX1_coverCount_27 hl (k := 3) rfl (by rw [ex13]; rfl) (by decide) rfl (fun ls hl => ?_)
          refine lv_goto (tgt := 4) hx hb dX1_coverCount_30 (by decide) ?_
          exact ih _ _ _ h hK4 ls (lv_sub hl [2, 3, 1, 0] rfl)
        have h := eo11
        clear eo11
        refine lv_if_eq (tgt := 24) hx hb dX1_coverCount_17 (by decide) (fun hc => ?_) (fun hc => ?_)
        · have h := iteT hc h
          refine lv_iconst (v := (0)) hx hb dX1_coverCount_24 (by decide) ?_
          obtain rfl := Option.some.inj h
          exact hJ25_o11 ls (lv_sub hl [0, 1, 3] rfl)
        · have h := iteF hc h
          refine lv_iconst (v := (1)) hx hb dX1_coverCount_20 (by decide) ?_
          refine lv_goto (tgt := 25) hx hb dX1_coverCount_21 (by decide) ?_
          obtain rfl := Option.some.inj h
          exact hJ25_o11 ls (lv_sub hl [0, 1, 3] rfl)
  refine hL4 _ _ _ _ eo9 (fun ls hl => ?_) ls (lv_sub hl [2, 3, 1, 0] rfl)
  refine lv_iload_n hx hb dX1_coverCount_33 rfl (lv_at hl 0 rfl) ?_
  obtain rfl := Option.some.inj h
  exact W.iret hx hb hr (fun t ht hW => ⟨rfl, ht⟩) (fun q hq => absurd hq List.not_mem_nil) dX1_coverCount_34

abbrev rm_X4_rowMask : Room := { frames := 0, cells := 0, slots := 0, locals := 0 }
theorem ok_X4_rowMask : okY yX4_rowMask 2 := ⟨by decide +kernel, by decide +kernel, by decide +kernel⟩
set_option maxHeartbeats 4000000 in
set_option maxRecDepth 100000 in
theorem c_X4_rowMask (l : Launch) (z0 : Nat) (D : va_G) (t : Nat → ClassId) (a1 : Int64) (a2 : Int32) (res : Int32) (h : f_X4_rowMask a1 a2 = some res) : Met l yX4_rowMask (ws_ yX4_rowMask cX4_rowMask 3 (some .int)) rm_X4_rowMask (PR z0 D t [.long a1, .int a2] []) (QR (some (.int res))) 0 0 FN := by
  refine Met.ofW (cc := cX4_rowMask) (maxL := 3) (ret := (some .int)) (by decide) rfl ?_
  intro p e s m args below meth c s₁ Bo hml hv
  obtain ⟨rfl, hC, hP⟩ := hv
  have hx := Bo.exec
  have hb := Bo.bytes
  have hr := Bo.returns
  have hts : ∀ w ∈ LA, w.before _ s = true := fun w hw => atoms_spec (ws := ws_ yX4_rowMask cX4_rowMask 3 (some .int)) Bo.pre w (List.mem_cons_of_mem _ hw)
  have hown : s.vm.findClass RX4 = some m.cls := findClass_of_methodNamed Bo.named
  have hlocks := Bo.notSynchronized
  have hK := hC.1
  have hl := lv_entry ([.long a1, .int a2]) (n := 3) (Nat.le_of_ble_eq_true rfl)
  rw [lg_entry_eq]
  generalize (lg_sl ([.long a1, .int a2]) ++ List.replicate (3 - (lg_sl ([.long a1, .int a2])).length) Slot.unset).toArray = ls at hl ⊢
  have hl : lv_has ls 3 [(0, .long a1), (2, .int a2)] := hl
  unfold f_X4_rowMask at h
  refine lv_lload_n hx hb dX4_rowMask_0 rfl (lv_at hl 0 rfl) ?_
  refine lv_bipush (v := (8)) hx hb dX4_rowMask_1 (by decide) ?_
  refine lv_iload_n hx hb dX4_rowMask_3 rfl (lv_at hl 1 rfl) ?_
  refine lv_imul hx hb dX4_rowMask_4 ?_
  refine lv_lushr hx hb dX4_rowMask_5 rfl ?_
  refine lv_ldc2 (v := (255)) hx hb hown (hts _ qw799) dX4_rowMask_6 ?_
  refine lv_land hx hb dX4_rowMask_9 ?_
  refine lv_l2i hx hb dX4_rowMask_10 rfl ?_
  obtain rfl := Option.some.inj h
  exact W.iret hx hb hr (fun t ht hW => ⟨rfl, ht⟩) (fun q hq => absurd hq List.not_mem_nil) dX4_rowMask_11

abbrev rm_X1_layableTriples : Room := { frames := 2, cells := 0, slots := 0, locals := 65 }
theorem ok_X1_layableTriples : okY yX1_layableTriples 0 := ⟨by decide +kernel, by decide +kernel, by decide +kernel⟩
set_option maxHeartbeats 4000000 in
set_option maxRecDepth 100000 in
theorem c_X1_layableTriples (l : Launch) (z0 : Nat) (D : va_G) (t : Nat → ClassId) (G : Nat → Nat) (μ : GS) (res : Int32) (h : f_X1_layableTriples μ = some res) : Met l yX1_layableTriples (ws_ yX1_layableTriples cX1_layableTriples 5 (some .int)) rm_X1_layableTriples (PR z0 D t [.ref (G 0)] (GW G t μ)) (QR (some (.int res))) 0 0 FN := by
  refine Met.ofW (cc := cX1_layableTriples) (maxL := 5) (ret := (some .int)) (by decide) rfl ?_
  intro p e s m args below meth c s₁ Bo hml hv
  obtain ⟨rfl, hC, hP⟩ := hv
  have hx := Bo.exec
  have hb := Bo.bytes
  have hr := Bo.returns
  have hts : ∀ w ∈ LA, w.before _ s = true := fun w hw => atoms_spec (ws := ws_ yX1_layableTriples cX1_layableTriples 5 (some .int)) Bo.pre w (List.mem_cons_of_mem _ hw)
  have hown : s.vm.findClass RX1 = some m.cls := findClass_of_methodNamed Bo.named
  have hlocks := Bo.notSynchronized
  have hK := hC.1
  have hl := lv_entry ([.ref (G 0)]) (n := 5) (Nat.le_of_ble_eq_true rfl)
  rw [lg_entry_eq]
  generalize (lg_sl ([.ref (G 0)]) ++ List.replicate (5 - (lg_sl ([.ref (G 0)])).length) Slot.unset).toArray = ls at hl ⊢
  have hl : lv_has ls 5 [(0, .ref (G 0))] := hl
  unfold f_X1_layableTriples at h
  refine lv_iconst (v := (0)) hx hb dX1_layableTriples_0 (by decide) ?_
  refine lv_istore_n (lv' := [(1, .int (0 : Int32)), (0, .ref (G 0))]) hx hb dX1_layableTriples_1 rfl hl (by decide) rfl (fun ls hl => ?_)
  refine lv_iconst (v := (0)) hx hb dX1_layableTriples_2 (by decide) ?_
  refine lv_istore_n (lv' := [(2, .int (0 : Int32)), (1, .int (0 : Int32)), (0, .ref (G 0))]) hx hb dX1_layableTriples_3 rfl hl (by decide) rfl (fun ls hl => ?_)
  obtain ⟨o89, eo89, h⟩ := obind h
  have hL4 : ∀ (n : Nat) (y1_4 : Int32) (y2_4 : Int32) (o89 : Int32), f_X1_layableTriples_L4 μ n y1_4 y2_4 = some o89 → (∀ (ls : Array Slot), lv_has ls 5 [(1, .int o89)] → W p l e (headSpec (ws_ yX1_layableTriples cX1_layableTriples 5 (some .int)) rm_X1_layableTriples).room s m ([.ref (G 0)] : List Value).toArray below meth c s.heap [] 0 0 (MQ below (QR (some (.int res))) ([.ref (G 0)] : List Value).toArray s 0 0 FN) (F0 m 68 ls [])) → ∀ (ls : Array Slot), lv_has ls 5 [(0, .ref (G 0)), (1, .int y1_4), (2, .int y2_4)] → W p l e (headSpec (ws_ yX1_layableTriples cX1_layableTriples 5 (some .int)) rm_X1_layableTriples).room s m ([.ref (G 0)] : List Value).toArray below meth c s.heap [] 0 0 (MQ below (QR (some (.int res))) ([.ref (G 0)] : List Value).toArray s 0 0 FN) (F0 m 4 ls []) := by
    intro n
    induction n with
    | zero => intro y1_4 y2_4 o89 h; exact absurd h (fun z => by cases z)
    | succ n ih =>
      intro y1_4 y2_4 o89 h hK4 ls hl
      replace h : f_X1_layableTriples_L4_b μ (f_X1_layableTriples_L4 μ n) y1_4 y2_4 = some o89 := h
      unfold f_X1_layableTriples_L4_b at h
      refine lv_iload_n hx hb dX1_layableTriples_4 rfl (lv_at hl 2 rfl) ?_
      refine lv_aload_n hx hb dX1_layableTriples_5 rfl (lv_at hl 0 rfl) ?_
      refine va_get hx hb hts inX1 hown hK hP 0 rfl rfl 1 (by decide) (hts _ qw121) (fun _ h9 => h9) rfl dX1_layableTriples_6 ?_
      refine lv_icmp_ge (tgt := 68) hx hb dX1_layableTriples_9 (by decide) (fun hc => ?_) (fun hc => ?_)
      · have h := iteT hc h
        obtain rfl := Option.some.inj h
        exact hK4 ls (lv_sub hl [1] rfl)
      · have h := iteF hc h
        refine lv_iconst (v := (0)) hx hb dX1_layableTriples_12 (by decide) ?_
        refine lv_istore_n (lv' := [(3, .int (0 : Int32)), (0, .ref (G 0)), (1, .int y1_4), (2, .int y2_4)]) hx hb dX1_layableTriples_13 rfl hl (by decide) rfl (fun ls hl => ?_)
        obtain ⟨o118, eo118, h⟩ := obind h
        have hL14 : ∀ (n : Nat) (y1_14 : Int32) (y3_14 : Int32) (o118 : Int32), f_X1_layableTriples_L14 μ y2_4 n y1_14 y3_14 = some o118 → (∀ (ls : Array Slot), lv_has ls 5 [(0, .ref (G 0)), (1, .int o118), (2, .int y2_4)] → W p l e (headSpec (ws_ yX1_layableTriples cX1_layableTriples 5 (some .int)) rm_X1_layableTriples).room s m ([.ref (G 0)] : List Value).toArray below meth c s.heap [] 0 0 (MQ below (QR (some (.int res))) ([.ref (G 0)] : List Value).toArray s 0 0 FN) (F0 m 62 ls [])) → ∀ (ls : Array Slot), lv_has ls 5 [(0, .ref (G 0)), (1, .int y1_14), (2, .int y2_4), (3, .int y3_14)] → W p l e (headSpec (ws_ yX1_layableTriples cX1_layableTriples 5 (some .int)) rm_X1_layableTriples).room s m ([.ref (G 0)] : List Value).toArray below meth c s.heap [] 0 0 (MQ below (QR (some (.int res))) ([.ref (G 0)] : List Value).toArray s 0 0 FN) (F0 m 14 ls []) := by
          intro n
          induction n with
          | zero => intro y1_14 y3_14 o118 h; exact absurd h (fun z => by cases z)
          | succ n ih =>
            intro y1_14 y3_14 o118 h hK14 ls hl
            replace h : f_X1_layableTriples_L14_b μ y2_4 (f_X1_layableTriples_L14 μ y2_4 n) y1_14 y3_14 = some o118 := h
            unfold f_X1_layableTriples_L14_b at h
            refine lv_iload_n hx hb dX1_layableTriples_14 rfl (lv_at hl 3 rfl) ?_
            refine lv_aload_n hx hb dX1_layableTriples_15 rfl (lv_at hl 0 rfl) ?_
            refine va_get hx hb hts inX1 hown hK hP 0 rfl rfl 0 (by decide) (hts _ qw119) (fun _ h9 => h9) rfl dX1_layableTriples_16 ?_
            refine lv_icmp_ge (tgt := 62) hx hb dX1_layableTriples_19 (by decide) (fun hc => ?_) (fun hc => ?_)
            · have h := iteT hc h
              obtain rfl := Option.some.inj h
              exact hK14 ls (lv_sub hl [0, 1, 2] rfl)
            · have h := iteF hc h
              refine lv_iconst (v := (0)) hx hb dX1_layableTriples_22 (by decide) ?_
              refine lv_istore (lv' := [(4, .int (0 : Int32)), (0, .ref (G 0)), (1, .int y1_14), (2, .int y2_4), (3, .int y3_14)]) hx hb dX1_layableTriples_23 hl (by decide) rfl (fun ls hl => ?_)
              obtain ⟨o127, eo127, h⟩ := obind h
              have hL25 : ∀ (n : Nat) (y1_25 : Int32) (y4_25 : Int32) (o127 : Int32), f_X1_layableTriples_L25 μ y3_14 y2_4 n y1_25 y4_25 = some o127 → (∀ (ls : Array Slot), lv_has ls 5 [(0, .ref (G 0)), (1, .int o127), (2, .int y2_4), (3, .int y3_14)] → W p l e (headSpec (ws_ yX1_layableTriples cX1_layableTriples 5 (some .int)) rm_X1_layableTriples).room s m ([.ref (G 0)] : List Value).toArray below meth c s.heap [] 0 0 (MQ below (QR (some (.int res))) ([.ref (G 0)] : List Value).toArray s 0 0 FN) (F0 m 56 ls [])) → ∀ (ls : Array Slot), lv_has ls 5 [(0, .ref (G 0)), (1, .int y1_25), (2, .int y2_4), (3, .int y3_14), (4, .int y4_25)] → W p l e (headSpec (ws_ yX1_layableTriples cX1_layableTriples 5 (some .int)) rm_X1_layableTriples).room s m ([.ref (G 0)] : List Value).toArray below meth c s.heap [] 0 0 (MQ below (QR (some (.int res))) ([.ref (G 0)] : List Value).toArray s 0 0 FN) (F0 m 25 ls []) := by
                intro n
                induction n with
                | zero => intro y1_25 y4_25 o127 h; exact absurd h (fun z => by cases z)
                | succ n ih =>
                  intro y1_25 y4_25 o127 h hK25 ls hl
                  replace h : f_X1_layableTriples_L25_b μ y3_14 y2_4 (f_X1_layableTriples_L25 μ y3_14 y2_4 n) y1_25 y4_25 = some o127 := h
                  unfold f_X1_layableTriples_L25_b at h
                  refine lv_iload hx hb dX1_layableTriples_25 (lv_at hl 4 rfl) ?_
                  refine lv_iconst (v := (4)) hx hb dX1_layableTriples_27 (by decide) ?_
                  refine lv_icmp_ge (tgt := 56) hx hb dX1_layableTriples_28 (by decide) (fun hc => ?_) (fun hc => ?_)
                  · have h := iteT hc h
                    obtain rfl := Option.some.inj h
                    exact hK25 ls (lv_sub hl [0, 1, 2, 3] rfl)
                  · have h := iteF hc h
                    refine lv_iload_n hx hb dX1_layableTriples_31 rfl (lv_at hl 1 rfl) ?_
                    refine lv_aload_n hx hb dX1_layableTriples_32 rfl (lv_at hl 0 rfl) ?_
                    refine lv_iload_n hx hb dX1_layableTriples_33 rfl (lv_at hl 3 rfl) ?_
                    refine lv_iload_n hx hb dX1_layableTriples_34 rfl (lv_at hl 2 rfl) ?_
                    refine lv_iload hx hb dX1_layableTriples_35 (lv_at hl 4 rfl) ?_
                    obtain ⟨r128, er128, h⟩ := obind h
                    refine call_R (va_runV (As := [.int y3_14, .int y2_4, .int y4_25]) (rest := [.int y1_25]) ⟨hx, hb, hml, hown, hts⟩ (c_X1_whyRefused l z0 D t G μ y3_14 y2_4 y4_25 _ er128) (kV hts qw786 qw617 qw618 qw8 qw619 ok_X1_whyRefused ⟨Nat.le_of_ble_eq_true rfl, Nat.le_of_ble_eq_true rfl⟩) ⟨PR.blind, va_recv hK hP (ci := 2) (q0 := 0) rfl rfl, fun U hU hW => ⟨rfl, by rw [hU]; exact hC.warm hW, by rw [hU]; exact hP⟩⟩ rfl rfl hl.1 rfl (lv_room (Nat.le_of_ble_eq_true rfl)) dX1_layableTriples_37 ⟨Nat.le_of_ble_eq_true rfl, Nat.le_of_ble_eq_true rfl⟩) ?_
                    obtain ⟨o129, eo129, h⟩ := obind h
                    have hJ48_o129 : ∀ ls : Array Slot, lv_has ls 5 [(0, .ref (G 0)), (2, .int y2_4), (3, .int y3_14), (4, .int y4_25)] → W p l e (headSpec (ws_ yX1_layableTriples cX1_layableTriples 5 (some .int)) rm_X1_layableTriples).room s m ([.ref (G 0)] : List Value).toArray below meth c s.heap [] 0 0 (MQ below (QR (some (.int res))) ([.ref (G 0)] : List Value).toArray s 0 0 FN) (F0 m 48 ls [.int o129, .int y1_25]) := by
                      intro ls hl
                      refine lv_iadd hx hb dX1_layableTriples_48 ?_
                      obtain ⟨x130, ex130, h⟩ := jlet_some h
                      refine topI ex130 ?_
                      refine lv_istore_n (lv' := [(1, .int x130), (0, .ref (G 0)), (2, .int y2_4), (3, .int y3_14), (4, .int y4_25)]) hx hb dX1_layableTriples_49 rfl hl (by decide) rfl (fun ls hl => ?_)
                      obtain ⟨x131, ex131, h⟩ := jlet_some h
                      refine lv_iinc (v := x131) (lv' := [(4, .int x131), (1, .int x130), (0, .ref (G 0)), (2, .int y2_4), (3, .int y3_14)]) hx hb dX1_layableTriples_50 hl (k := 4) rfl (by rw [ex131]; rfl) (by decide) rfl (fun ls hl => ?_)
                      refine lv_goto (tgt := 25) hx hb dX1_layableTriples_53 (by decide) ?_
                      exact ih _ _ _ h hK25 ls (lv_sub hl [2, 1, 3, 4, 0] rfl)
                    have h := eo129
                    clear eo129
                    refine lv_if_ne (tgt := 47) hx hb dX1_layableTriples_40 (by decide) (fun hc => ?_) (fun hc => ?_)
                    · have h := iteF hc h
                      refine lv_iconst (v := (0)) hx hb dX1_layableTriples_47 (by decide) ?_
                      obtain rfl := Option.some.inj h
                      exact hJ48_o129 ls (lv_sub hl [0, 2, 3, 4] rfl)
                    · have h := iteT hc h
                      refine lv_iconst (v := (1)) hx hb dX1_layableTriples_43 (by decide) ?_
                      refine lv_goto (tgt := 48) hx hb dX1_layableTriples_44 (by decide) ?_
                      obtain rfl := Option.some.inj h
                      exact hJ48_o129 ls (lv_sub hl [0, 2, 3, 4] rfl)
              refine hL25 _ _ _ _ eo127 (fun ls hl => ?_) ls (lv_sub hl [1, 2, 3, 4, 0] rfl)
              obtain ⟨x132, ex132, h⟩ := jlet_some h
              refine lv_iinc (v := x132) (lv' := [(3, .int x132), (0, .ref (G 0)), (1, .int o127), (2, .int y2_4)]) hx hb dX1_layableTriples_56 hl (k := 3) rfl (by rw [ex132]; rfl) (by decide) rfl (fun ls hl => ?_)
              refine lv_goto (tgt := 14) hx hb dX1_layableTriples_59 (by decide) ?_
              exact ih _ _ _ h hK14 ls (lv_sub hl [1, 2, 3, 0] rfl)
        refine hL14 _ _ _ _ eo118 (fun ls hl => ?_) ls (lv_sub hl [1, 2, 3, 0] rfl)
        obtain ⟨x133, ex133, h⟩ := jlet_some h
        refine lv_iinc (v := x133) (lv' := [(2, .int x133), (0, .ref (G 0)), (1, .int o118)]) hx hb dX1_layableTriples_62 hl (k := 2) rfl (by rw [ex133]; rfl) (by decide) rfl (fun ls hl => ?_)
        refine lv_goto (tgt := 4) hx hb dX1_layableTriples_65 (by decide) ?_
        exact ih _ _ _ h hK4 ls (lv_sub hl [1, 2, 0] rfl)
  refine hL4 _ _ _ _ eo89 (fun ls hl => ?_) ls (lv_sub hl [2, 1, 0] rfl)
  refine lv_iload_n hx hb dX1_layableTriples_68 rfl (lv_at hl 0 rfl) ?_
  obtain rfl := Option.some.inj h
  exact W.iret hx hb hr (fun t ht hW => ⟨rfl, ht⟩) (fun q hq => absurd hq List.not_mem_nil) dX1_layableTriples_69

abbrev rm_X1_flippableBlocks : Room := { frames := 4, cells := 0, slots := 0, locals := 112 }
theorem ok_X1_flippableBlocks : okY yX1_flippableBlocks 0 := ⟨by decide +kernel, by decide +kernel, by decide +kernel⟩
set_option maxHeartbeats 4000000 in
set_option maxRecDepth 100000 in
theorem c_X1_flippableBlocks (l : Launch) (z0 : Nat) (D : va_G) (t : Nat → ClassId) (G : Nat → Nat) (μ : GS) (res : Int32) (h : f_X1_flippableBlocks μ = some res) : Met l yX1_flippableBlocks (ws_ yX1_flippableBlocks cX1_flippableBlocks 4 (some .int)) rm_X1_flippableBlocks (PR z0 D t [.ref (G 0)] (GW G t μ)) (QR (some (.int res))) 0 0 FN := by
  refine Met.ofW (cc := cX1_flippableBlocks) (maxL := 4) (ret := (some .int)) (by decide) rfl ?_
  intro p e s m args below meth c s₁ Bo hml hv
  obtain ⟨rfl, hC, hP⟩ := hv
  have hx := Bo.exec
  have hb := Bo.bytes
  have hr := Bo.returns
  have hts : ∀ w ∈ LA, w.before _ s = true := fun w hw => atoms_spec (ws := ws_ yX1_flippableBlocks cX1_flippableBlocks 4 (some .int)) Bo.pre w (List.mem_cons_of_mem _ hw)
  have hown : s.vm.findClass RX1 = some m.cls := findClass_of_methodNamed Bo.named
  have hlocks := Bo.notSynchronized
  have hK := hC.1
  have hl := lv_entry ([.ref (G 0)]) (n := 4) (Nat.le_of_ble_eq_true rfl)
  rw [lg_entry_eq]
  generalize (lg_sl ([.ref (G 0)]) ++ List.replicate (4 - (lg_sl ([.ref (G 0)])).length) Slot.unset).toArray = ls at hl ⊢
  have hl : lv_has ls 4 [(0, .ref (G 0))] := hl
  unfold f_X1_flippableBlocks at h
  refine lv_iconst (v := (0)) hx hb dX1_flippableBlocks_0 (by decide) ?_
  refine lv_istore_n (lv' := [(1, .int (0 : Int32)), (0, .ref (G 0))]) hx hb dX1_flippableBlocks_1 rfl hl (by decide) rfl (fun ls hl => ?_)
  refine lv_iconst (v := (0)) hx hb dX1_flippableBlocks_2 (by decide) ?_
  refine lv_istore_n (lv' := [(2, .int (0 : Int32)), (1, .int (0 : Int32)), (0, .ref (G 0))]) hx hb dX1_flippableBlocks_3 rfl hl (by decide) rfl (fun ls hl => ?_)
  obtain ⟨o71, eo71, h⟩ := obind h
  have hL4 : ∀ (n : Nat) (y1_4 : Int32) (y2_4 : Int32) (o71 : Int32), f_X1_flippableBlocks_L4 μ n y1_4 y2_4 = some o71 → (∀ (ls : Array Slot), lv_has ls 4 [(1, .int o71)] → W p l e (headSpec (ws_ yX1_flippableBlocks cX1_flippableBlocks 4 (some .int)) rm_X1_flippableBlocks).room s m ([.ref (G 0)] : List Value).toArray below meth c s.heap [] 0 0 (MQ below (QR (some (.int res))) ([.ref (G 0)] : List Value).toArray s 0 0 FN) (F0 m 90 ls [])) → ∀ (ls : Array Slot), lv_has ls 4 [(0, .ref (G 0)), (1, .int y1_4), (2, .int y2_4)] → W p l e (headSpec (ws_ yX1_flippableBlocks cX1_flippableBlocks 4 (some .int)) rm_X1_flippableBlocks).room s m ([.ref (G 0)] : List Value).toArray below meth c s.heap [] 0 0 (MQ below (QR (some (.int res))) ([.ref (G 0)] : List Value).toArray s 0 0 FN) (F0 m 4 ls []) := by
    intro n
    induction n with
    | zero => intro y1_4 y2_4 o71 h; exact absurd h (fun z => by cases z)
    | succ n ih =>
      intro y1_4 y2_4 o71 h hK4 ls hl
      replace h : f_X1_flippableBlocks_L4_b μ (f_X1_flippableBlocks_L4 μ n) y1_4 y2_4 = some o71 := h
      unfold f_X1_flippableBlocks_L4_b at h
      refine lv_iload_n hx hb dX1_flippableBlocks_4 rfl (lv_at hl 2 rfl) ?_
      refine lv_aload_n hx hb dX1_flippableBlocks_5 rfl (lv_at hl 0 rfl) ?_
      refine va_get hx hb hts inX1 hown hK hP 0 rfl rfl 1 (by decide) (hts _ qw121) (fun _ h9 => h9) rfl dX1_flippableBlocks_6 ?_
      refine lv_icmp_ge (tgt := 90) hx hb dX1_flippableBlocks_9 (by decide) (fun hc => ?_) (fun hc => ?_)
      · have h := iteT hc h
        obtain rfl := Option.some.inj h
        exact hK4 ls (lv_sub hl [1] rfl)
      · have h := iteF hc h
        refine lv_iconst (v := (0)) hx hb dX1_flippableBlocks_12 (by decide) ?_
        refine lv_istore_n (lv' := [(3, .int (0 : Int32)), (0, .ref (G 0)), (1, .int y1_4), (2, .int y2_4)]) hx hb dX1_flippableBlocks_13 rfl hl (by decide) rfl (fun ls hl => ?_)
        obtain ⟨o94, eo94, h⟩ := obind h
        have hL14 : ∀ (n : Nat) (y1_14 : Int32) (y3_14 : Int32) (o94 : Int32), f_X1_flippableBlocks_L14 μ y2_4 n y1_14 y3_14 = some o94 → (∀ (ls : Array Slot), lv_has ls 4 [(0, .ref (G 0)), (1, .int o94), (2, .int y2_4)] → W p l e (headSpec (ws_ yX1_flippableBlocks cX1_flippableBlocks 4 (some .int)) rm_X1_flippableBlocks).room s m ([.ref (G 0)] : List Value).toArray below meth c s.heap [] 0 0 (MQ below (QR (some (.int res))) ([.ref (G 0)] : List Value).toArray s 0 0 FN) (F0 m 84 ls [])) → ∀ (ls : Array Slot), lv_has ls 4 [(0, .ref (G 0)), (1, .int y1_14), (2, .int y2_4), (3, .int y3_14)] → W p l e (headSpec (ws_ yX1_flippableBlocks cX1_flippableBlocks 4 (some .int)) rm_X1_flippableBlocks).room s m ([.ref (G 0)] : List Value).toArray below meth c s.heap [] 0 0 (MQ below (QR (some (.int res))) ([.ref (G 0)] : List Value).toArray s 0 0 FN) (F0 m 14 ls []) := by
          intro n
          induction n with
          | zero => intro y1_14 y3_14 o94 h; exact absurd h (fun z => by cases z)
          | succ n ih =>
            intro y1_14 y3_14 o94 h hK14 ls hl
            replace h : f_X1_flippableBlocks_L14_b μ y2_4 (f_X1_flippableBlocks_L14 μ y2_4 n) y1_14 y3_14 = some o94 := h
            unfold f_X1_flippableBlocks_L14_b at h
            refine lv_iload_n hx hb dX1_flippableBlocks_14 rfl (lv_at hl 3 rfl) ?_
            refine lv_aload_n hx hb dX1_flippableBlocks_15 rfl (lv_at hl 0 rfl) ?_
            refine va_get hx hb hts inX1 hown hK hP 0 rfl rfl 0 (by decide) (hts _ qw119) (fun _ h9 => h9) rfl dX1_flippableBlocks_16 ?_
            refine lv_icmp_ge (tgt := 84) hx hb dX1_flippableBlocks_19 (by decide) (fun hc => ?_) (fun hc => ?_)
            · have h := iteT hc h
              obtain rfl := Option.some.inj h
              exact hK14 ls (lv_sub hl [0, 1, 2] rfl)
            · have h := iteF hc h
              refine lv_iload_n hx hb dX1_flippableBlocks_22 rfl (lv_at hl 1 rfl) ?_
              refine lv_aload_n hx hb dX1_flippableBlocks_23 rfl (lv_at hl 0 rfl) ?_
              refine lv_iload_n hx hb dX1_flippableBlocks_24 rfl (lv_at hl 3 rfl) ?_
              refine lv_iload_n hx hb dX1_flippableBlocks_25 rfl (lv_at hl 2 rfl) ?_
              refine lv_iconst (v := (1)) hx hb dX1_flippableBlocks_26 (by decide) ?_
              obtain ⟨r95, er95, h⟩ := obind h
              refine call_R (va_runV (As := [.int y3_14, .int y2_4, .int (1 : Int32)]) (rest := [.int y1_14]) ⟨hx, hb, hml, hown, hts⟩ (c_X1_hasFlipBlock l z0 D t G μ y3_14 y2_4 (1 : Int32) _ er95) (kV hts qw815 qw670 qw671 qw8 qw672 ok_X1_hasFlipBlock ⟨Nat.le_of_ble_eq_true rfl, Nat.le_of_ble_eq_true rfl⟩) ⟨PR.blind, va_recv hK hP (ci := 2) (q0 := 0) rfl rfl, fun U hU hW => ⟨rfl, by rw [hU]; exact hC.warm hW, by rw [hU]; exact hP⟩⟩ rfl rfl hl.1 rfl (lv_room (Nat.le_of_ble_eq_true rfl)) dX1_flippableBlocks_27 ⟨Nat.le_of_ble_eq_true rfl, Nat.le_of_ble_eq_true rfl⟩) ?_
              obtain ⟨o97, eo97, h⟩ := obind h
              have hJ48_o97 : ∀ ls : Array Slot, lv_has ls 4 [(0, .ref (G 0)), (2, .int y2_4), (3, .int y3_14)] → W p l e (headSpec (ws_ yX1_flippableBlocks cX1_flippableBlocks 4 (some .int)) rm_X1_flippableBlocks).room s m ([.ref (G 0)] : List Value).toArray below meth c s.heap [] 0 0 (MQ below (QR (some (.int res))) ([.ref (G 0)] : List Value).toArray s 0 0 FN) (F0 m 48 ls [.int o97, .int y1_14]) := by
                intro ls hl
                refine lv_iadd hx hb dX1_flippableBlocks_48 ?_
                obtain ⟨x99, ex99, h⟩ := jlet_some h
                refine topI ex99 ?_
                refine lv_istore_n (lv' := [(1, .int x99), (0, .ref (G 0)), (2, .int y2_4), (3, .int y3_14)]) hx hb dX1_flippableBlocks_49 rfl hl (by decide) rfl (fun ls hl => ?_)
                refine lv_iload_n hx hb dX1_flippableBlocks_50 rfl (lv_at hl 0 rfl) ?_
                refine lv_aload_n hx hb dX1_flippableBlocks_51 rfl (lv_at hl 1 rfl) ?_
                refine lv_iload_n hx hb dX1_flippableBlocks_52 rfl (lv_at hl 3 rfl) ?_
                refine lv_iload_n hx hb dX1_flippableBlocks_53 rfl (lv_at hl 2 rfl) ?_
                refine lv_iconst (v := (0)) hx hb dX1_flippableBlocks_54 (by decide) ?_
                obtain ⟨r100, er100, h⟩ := obind h
                refine call_R (va_runV (As := [.int y3_14, .int y2_4, .int (0 : Int32)]) (rest := [.int x99]) ⟨hx, hb, hml, hown, hts⟩ (c_X1_hasFlipBlock l z0 D t G μ y3_14 y2_4 (0 : Int32) _ er100) (kV hts qw815 qw670 qw671 qw8 qw672 ok_X1_hasFlipBlock ⟨Nat.le_of_ble_eq_true rfl, Nat.le_of_ble_eq_true rfl⟩) ⟨PR.blind, va_recv hK hP (ci := 2) (q0 := 0) rfl rfl, fun U hU hW => ⟨rfl, by rw [hU]; exact hC.warm hW, by rw [hU]; exact hP⟩⟩ rfl rfl hl.1 rfl (lv_room (Nat.le_of_ble_eq_true rfl)) dX1_flippableBlocks_55 ⟨Nat.le_of_ble_eq_true rfl, Nat.le_of_ble_eq_true rfl⟩) ?_
                obtain ⟨o102, eo102, h⟩ := obind h
                have hJ76_o102 : ∀ ls : Array Slot, lv_has ls 4 [(0, .ref (G 0)), (2, .int y2_4), (3, .int y3_14)] → W p l e (headSpec (ws_ yX1_flippableBlocks cX1_flippableBlocks 4 (some .int)) rm_X1_flippableBlocks).room s m ([.ref (G 0)] : List Value).toArray below meth c s.heap [] 0 0 (MQ below (QR (some (.int res))) ([.ref (G 0)] : List Value).toArray s 0 0 FN) (F0 m 76 ls [.int o102, .int x99]) := by
                  intro ls hl
                  refine lv_iadd hx hb dX1_flippableBlocks_76 ?_
                  obtain ⟨x104, ex104, h⟩ := jlet_some h
                  refine topI ex104 ?_
                  refine lv_istore_n (lv' := [(1, .int x104), (0, .ref (G 0)), (2, .int y2_4), (3, .int y3_14)]) hx hb dX1_flippableBlocks_77 rfl hl (by decide) rfl (fun ls hl => ?_)
                  obtain ⟨x105, ex105, h⟩ := jlet_some h
                  refine lv_iinc (v := x105) (lv' := [(3, .int x105), (1, .int x104), (0, .ref (G 0)), (2, .int y2_4)]) hx hb dX1_flippableBlocks_78 hl (k := 3) rfl (by rw [ex105]; rfl) (by decide) rfl (fun ls hl => ?_)
                  refine lv_goto (tgt := 14) hx hb dX1_flippableBlocks_81 (by decide) ?_
                  exact ih _ _ _ h hK14 ls (lv_sub hl [2, 1, 3, 0] rfl)
                have h := eo102
                clear eo102
                refine lv_if_eq (tgt := 75) hx hb dX1_flippableBlocks_58 (by decide) (fun hc => ?_) (fun hc => ?_)
                · have h := iteT hc h
                  refine lv_iconst (v := (0)) hx hb dX1_flippableBlocks_75 (by decide) ?_
                  obtain rfl := Option.some.inj h
                  exact hJ76_o102 ls (lv_sub hl [1, 2, 3] rfl)
                · have h := iteF hc h
                  refine lv_aload_n hx hb dX1_flippableBlocks_61 rfl (lv_at hl 1 rfl) ?_
                  refine lv_iload_n hx hb dX1_flippableBlocks_62 rfl (lv_at hl 3 rfl) ?_
                  refine lv_iload_n hx hb dX1_flippableBlocks_63 rfl (lv_at hl 2 rfl) ?_
                  refine lv_iconst (v := (0)) hx hb dX1_flippableBlocks_64 (by decide) ?_
                  obtain ⟨r103, er103, h⟩ := obind h
                  refine call_R (va_runV (As := [.int y3_14, .int y2_4, .int (0 : Int32)]) (rest := [.int x99]) ⟨hx, hb, hml, hown, hts⟩ (c_X1_isFlippable l z0 D t G μ y3_14 y2_4 (0 : Int32) _ er103) (kV hts qw816 qw675 qw676 qw8 qw677 ok_X1_isFlippable ⟨Nat.le_of_ble_eq_true rfl, Nat.le_of_ble_eq_true rfl⟩) ⟨PR.blind, va_recv hK hP (ci := 2) (q0 := 0) rfl rfl, fun U hU hW => ⟨rfl, by rw [hU]; exact hC.warm hW, by rw [hU]; exact hP⟩⟩ rfl rfl hl.1 rfl (lv_room (Nat.le_of_ble_eq_true rfl)) dX1_flippableBlocks_65 ⟨Nat.le_of_ble_eq_true rfl, Nat.le_of_ble_eq_true rfl⟩) ?_
                  refine lv_if_eq (tgt := 75) hx hb dX1_flippableBlocks_68 (by decide) (fun hc => ?_) (fun hc => ?_)
                  · have h := iteT hc h
                    refine lv_iconst (v := (0)) hx hb dX1_flippableBlocks_75 (by decide) ?_
                    obtain rfl := Option.some.inj h
                    exact hJ76_o102 ls (lv_sub hl [1, 2, 3] rfl)
                  · have h := iteF hc h
                    refine lv_iconst (v := (1)) hx hb dX1_flippableBlocks_71 (by decide) ?_
                    refine lv_goto (tgt := 76) hx hb dX1_flippableBlocks_72 (by decide) ?_
                    obtain rfl := Option.some.inj h
                    exact hJ76_o102 ls (lv_sub hl [1, 2, 3] rfl)
              have h := eo97
              clear eo97
              refine lv_if_eq (tgt := 47) hx hb dX1_flippableBlocks_30 (by decide) (fun hc => ?_) (fun hc => ?_)
              · have h := iteT hc h
                refine lv_iconst (v := (0)) hx hb dX1_flippableBlocks_47 (by decide) ?_
                obtain rfl := Option.some.inj h
                exact hJ48_o97 ls (lv_sub hl [0, 2, 3] rfl)
              · have h := iteF hc h
                refine lv_aload_n hx hb dX1_flippableBlocks_33 rfl (lv_at hl 0 rfl) ?_
                refine lv_iload_n hx hb dX1_flippableBlocks_34 rfl (lv_at hl 3 rfl) ?_
                refine lv_iload_n hx hb dX1_flippableBlocks_35 rfl (lv_at hl 2 rfl) ?_
                refine lv_iconst (v := (1)) hx hb dX1_flippableBlocks_36 (by decide) ?_
                obtain ⟨r98, er98, h⟩ := obind h
                refine call_R (va_runV (As := [.int y3_14, .int y2_4, .int (1 : Int32)]) (rest := [.int y1_14]) ⟨hx, hb, hml, hown, hts⟩ (c_X1_isFlippable l z0 D t G μ y3_14 y2_4 (1 : Int32) _ er98) (kV hts qw816 qw675 qw676 qw8 qw677 ok_X1_isFlippable ⟨Nat.le_of_ble_eq_true rfl, Nat.le_of_ble_eq_true rfl⟩) ⟨PR.blind, va_recv hK hP (ci := 2) (q0 := 0) rfl rfl, fun U hU hW => ⟨rfl, by rw [hU]; exact hC.warm hW, by rw [hU]; exact hP⟩⟩ rfl rfl hl.1 rfl (lv_room (Nat.le_of_ble_eq_true rfl)) dX1_flippableBlocks_37 ⟨Nat.le_of_ble_eq_true rfl, Nat.le_of_ble_eq_true rfl⟩) ?_
                refine lv_if_eq (tgt := 47) hx hb dX1_flippableBlocks_40 (by decide) (fun hc => ?_) (fun hc => ?_)
                · have h := iteT hc h
                  refine lv_iconst (v := (0)) hx hb dX1_flippableBlocks_47 (by decide) ?_
                  obtain rfl := Option.some.inj h
                  exact hJ48_o97 ls (lv_sub hl [0, 2, 3] rfl)
                · have h := iteF hc h
                  refine lv_iconst (v := (1)) hx hb dX1_flippableBlocks_43 (by decide) ?_
                  refine lv_goto (tgt := 48) hx hb dX1_flippableBlocks_44 (by decide) ?_
                  obtain rfl := Option.some.inj h
                  exact hJ48_o97 ls (lv_sub hl [0, 2, 3] rfl)
        refine hL14 _ _ _ _ eo94 (fun ls hl => ?_) ls (lv_sub hl [1, 2, 3, 0] rfl)
        obtain ⟨x106, ex106, h⟩ := jlet_some h
        refine lv_iinc (v := x106) (lv' := [(2, .int x106), (0, .ref (G 0)), (1, .int o94)]) hx hb dX1_flippableBlocks_84 hl (k := 2) rfl (by rw [ex106]; rfl) (by decide) rfl (fun ls hl => ?_)
        refine lv_goto (tgt := 4) hx hb dX1_flippableBlocks_87 (by decide) ?_
        exact ih _ _ _ h hK4 ls (lv_sub hl [1, 2, 0] rfl)
  refine hL4 _ _ _ _ eo71 (fun ls hl => ?_) ls (lv_sub hl [2, 1, 0] rfl)
  refine lv_iload_n hx hb dX1_flippableBlocks_90 rfl (lv_at hl 0 rfl) ?_
  obtain rfl := Option.some.inj h
  exact W.iret hx hb hr (fun t ht hW => ⟨rfl, ht⟩) (fun q hq => absurd hq List.not_mem_nil) dX1_flippableBlocks_91

abbrev rm_X1_firstFreeWith : Room := { frames := 4, cells := 0, slots := 0, locals := 113 }
theorem ok_X1_firstFreeWith : okY yX1_firstFreeWith 1 := ⟨by decide +kernel, by decide +kernel, by decide +kernel⟩
set_option maxHeartbeats 4000000 in
set_option maxRecDepth 100000 in
theorem c_X1_firstFreeWith (l : Launch) (z0 : Nat) (D : va_G) (t : Nat → ClassId) (G : Nat → Nat) (μ : GS) (a1 : Int32) (res : Int32) (h : f_X1_firstFreeWith μ a1 = some res) : Met l yX1_firstFreeWith (ws_ yX1_firstFreeWith cX1_firstFreeWith 5 (some .int)) rm_X1_firstFreeWith (PR z0 D t [.ref (G 0), .int a1] (GW G t μ)) (QR (some (.int res))) 0 0 FN := by
  refine Met.ofW (cc := cX1_firstFreeWith) (maxL := 5) (ret := (some .int)) (by decide) rfl ?_
  intro p e s m args below meth c s₁ Bo hml hv
  obtain ⟨rfl, hC, hP⟩ := hv
  have hx := Bo.exec
  have hb := Bo.bytes
  have hr := Bo.returns
  have hts : ∀ w ∈ LA, w.before _ s = true := fun w hw => atoms_spec (ws := ws_ yX1_firstFreeWith cX1_firstFreeWith 5 (some .int)) Bo.pre w (List.mem_cons_of_mem _ hw)
  have hown : s.vm.findClass RX1 = some m.cls := findClass_of_methodNamed Bo.named
  have hlocks := Bo.notSynchronized
  have hK := hC.1
  have hl := lv_entry ([.ref (G 0), .int a1]) (n := 5) (Nat.le_of_ble_eq_true rfl)
  rw [lg_entry_eq]
  generalize (lg_sl ([.ref (G 0), .int a1]) ++ List.replicate (5 - (lg_sl ([.ref (G 0), .int a1])).length) Slot.unset).toArray = ls at hl ⊢
  have hl : lv_has ls 5 [(0, .ref (G 0)), (1, .int a1)] := hl
  unfold f_X1_firstFreeWith at h
  refine lv_aload_n hx hb dX1_firstFreeWith_0 rfl (lv_at hl 0 rfl) ?_
  obtain ⟨r1, er1, h⟩ := obind h
  refine call_R (va_runV (As := []) (rest := []) ⟨hx, hb, hml, hown, hts⟩ (c_X1_freeCells l z0 D t G μ _ er1) (kV hts qw846 qw237 qw238 qw8 qw239 ok_X1_freeCells ⟨Nat.le_of_ble_eq_true rfl, Nat.le_of_ble_eq_true rfl⟩) ⟨PR.blind, va_recv hK hP (ci := 2) (q0 := 0) rfl rfl, fun U hU hW => ⟨rfl, by rw [hU]; exact hC.warm hW, by rw [hU]; exact hP⟩⟩ rfl rfl hl.1 rfl (lv_room (Nat.le_of_ble_eq_true rfl)) dX1_firstFreeWith_1 ⟨Nat.le_of_ble_eq_true rfl, Nat.le_of_ble_eq_true rfl⟩) ?_
  refine lv_lstore_n (lv' := [(2, .long r1), (0, .ref (G 0)), (1, .int a1)]) hx hb dX1_firstFreeWith_4 rfl hl (by decide) rfl (fun ls hl => ?_)
  refine lv_iconst (v := (0)) hx hb dX1_firstFreeWith_5 (by decide) ?_
  refine lv_istore (lv' := [(4, .int (0 : Int32)), (2, .long r1), (0, .ref (G 0)), (1, .int a1)]) hx hb dX1_firstFreeWith_6 hl (by decide) rfl (fun ls hl => ?_)
  obtain ⟨o10, eo10, h⟩ := obind h
  have hL8 : ∀ (n : Nat) (y4_8 : Int32) (o10 : (Unit) ⊕ (Int32)), f_X1_firstFreeWith_L8 a1 μ r1 n y4_8 = some o10 → (∀ o10l, o10 = .inl o10l → ∀ (ls : Array Slot), lv_has ls 5 [] → W p l e (headSpec (ws_ yX1_firstFreeWith cX1_firstFreeWith 5 (some .int)) rm_X1_firstFreeWith).room s m ([.ref (G 0), .int a1] : List Value).toArray below meth c s.heap [] 0 0 (MQ below (QR (some (.int res))) ([.ref (G 0), .int a1] : List Value).toArray s 0 0 FN) (F0 m 43 ls [])) → (∀ r9, o10 = .inr r9 → r9 = res) → ∀ (ls : Array Slot), lv_has ls 5 [(0, .ref (G 0)), (1, .int a1), (2, .long r1), (4, .int y4_8)] → W p l e (headSpec (ws_ yX1_firstFreeWith cX1_firstFreeWith 5 (some .int)) rm_X1_firstFreeWith).room s m ([.ref (G 0), .int a1] : List Value).toArray below meth c s.heap [] 0 0 (MQ below (QR (some (.int res))) ([.ref (G 0), .int a1] : List Value).toArray s 0 0 FN) (F0 m 8 ls []) := by
    intro n
    induction n with
    | zero => intro y4_8 o10 h; exact absurd h (fun z => by cases z)
    | succ n ih =>
      intro y4_8 o10 h hK8 hR8 ls hl
      replace h : f_X1_firstFreeWith_L8_b a1 μ r1 (f_X1_firstFreeWith_L8 a1 μ r1 n) y4_8 = some o10 := h
      unfold f_X1_firstFreeWith_L8_b at h
      refine lv_iload hx hb dX1_firstFreeWith_8 (lv_at hl 3 rfl) ?_
      refine lv_bipush (v := (64)) hx hb dX1_firstFreeWith_10 (by decide) ?_
      refine lv_icmp_ge (tgt := 43) hx hb dX1_firstFreeWith_12 (by decide) (fun hc => ?_) (fun hc => ?_)
      · have h := iteT hc h
        obtain rfl := Option.some.inj h
        exact hK8 _ rfl ls (lv_sub hl [] rfl)
      · have h := iteF hc h
        refine lv_lload_n hx hb dX1_firstFreeWith_15 rfl (lv_at hl 2 rfl) ?_
        refine lv_iload hx hb dX1_firstFreeWith_16 (lv_at hl 3 rfl) ?_
        obtain ⟨r11, er11, h⟩ := obind h
        refine call_R (va_runSN (As := [.long r1, .int y4_8]) (rest := []) ⟨hx, hb, hml, hown, hts⟩ (c_X4_holds l z0 D t r1 y4_8 _ er11) ⟨kN hts (hC.2.1 _ qw787) qw1 qw297 ok_X4_holds ⟨Nat.le_of_ble_eq_true rfl, Nat.le_of_ble_eq_true rfl⟩, hts _ qw296, trivial⟩ ⟨PR.blind, fun U hU hW => ⟨rfl, by rw [hU]; exact hC.warm hW, by rw [hU]; exact va_P_nil⟩⟩ rfl rfl hl.1 rfl (lv_room (Nat.le_of_ble_eq_true rfl)) dX1_firstFreeWith_18 ⟨Nat.le_of_ble_eq_true rfl, Nat.le_of_ble_eq_true rfl⟩) ?_
        refine lv_if_eq (tgt := 37) hx hb dX1_firstFreeWith_21 (by decide) (fun hc => ?_) (fun hc => ?_)
        · have h := iteT hc h
          obtain ⟨x12, ex12, h⟩ := jlet_some h
          refine lv_iinc (v := x12) (lv' := [(4, .int x12), (0, .ref (G 0)), (1, .int a1), (2, .long r1)]) hx hb dX1_firstFreeWith_37 hl (k := 3) rfl (by rw [ex12]; rfl) (by decide) rfl (fun ls hl => ?_)
          refine lv_goto (tgt := 8) hx hb dX1_firstFreeWith_40 (by decide) ?_
          exact ih _ _ h hK8 hR8 ls (lv_sub hl [1, 2, 3, 0] rfl)
        · have h := iteF hc h
          refine lv_aload_n hx hb dX1_firstFreeWith_24 rfl (lv_at hl 0 rfl) ?_
          refine lv_iload hx hb dX1_firstFreeWith_25 (lv_at hl 3 rfl) ?_
          obtain ⟨r13, er13, h⟩ := obind h
          refine call_R (va_runV (As := [.int y4_8]) (rest := []) ⟨hx, hb, hml, hown, hts⟩ (c_X1_coverCount l z0 D t G μ y4_8 _ er13) (kV hts qw847 qw773 qw774 qw8 qw775 ok_X1_coverCount ⟨Nat.le_of_ble_eq_true rfl, Nat.le_of_ble_eq_true rfl⟩) ⟨PR.blind, va_recv hK hP (ci := 2) (q0 := 0) rfl rfl, fun U hU hW => ⟨rfl, by rw [hU]; exact hC.warm hW, by rw [hU]; exact hP⟩⟩ rfl rfl hl.1 rfl (lv_room (Nat.le_of_ble_eq_true rfl)) dX1_firstFreeWith_27 ⟨Nat.le_of_ble_eq_true rfl, Nat.le_of_ble_eq_true rfl⟩) ?_
          refine lv_iload_n hx hb dX1_firstFreeWith_30 rfl (lv_at hl 1 rfl) ?_
          refine lv_icmp_ne (tgt := 37) hx hb dX1_firstFreeWith_31 (by decide) (fun hc => ?_) (fun hc => ?_)
          · have h := iteF hc h
            obtain ⟨x14, ex14, h⟩ := jlet_some h
            refine lv_iinc (v := x14) (lv' := [(4, .int x14), (0, .ref (G 0)), (1, .int a1), (2, .long r1)]) hx hb dX1_firstFreeWith_37 hl (k := 3) rfl (by rw [ex14]; rfl) (by decide) rfl (fun ls hl => ?_)
            refine lv_goto (tgt := 8) hx hb dX1_firstFreeWith_40 (by decide) ?_
            exact ih _ _ h hK8 hR8 ls (lv_sub hl [1, 2, 3, 0] rfl)
          · have h := iteT hc h
            refine lv_iload hx hb dX1_firstFreeWith_34 (lv_at hl 3 rfl) ?_
            have e9 := hR8 _ (Option.some.inj h).symm
            subst e9
            exact W.iret hx hb hr (fun t ht hW => ⟨rfl, ht⟩) (fun q hq => absurd hq List.not_mem_nil) dX1_firstFreeWith_36
  refine hL8 _ _ _ eo10 (fun o10l eq9 ls hl => ?_) (fun r9 eq9 => ?_) ls (lv_sub hl [2, 3, 1, 0] rfl)
  · subst eq9
    replace h := sumL h
    refine lv_iconst (v := (-1)) hx hb dX1_firstFreeWith_43 (by decide) ?_
    obtain rfl := Option.some.inj h
    exact W.iret hx hb hr (fun t ht hW => ⟨rfl, ht⟩) (fun q hq => absurd hq List.not_mem_nil) dX1_firstFreeWith_44
  · subst eq9
    replace h := sumR h
    exact Option.some.inj h

abbrev rm_X1_firstCover : Room := { frames := 3, cells := 0, slots := 0, locals := 90 }
theorem ok_X1_firstCover : okY yX1_firstCover 1 := ⟨by decide +kernel, by decide +kernel, by decide +kernel⟩
set_option maxHeartbeats 4000000 in
set_option maxRecDepth 100000 in
theorem c_X1_firstCover (l : Launch) (z0 : Nat) (D : va_G) (t : Nat → ClassId) (G : Nat → Nat) (μ : GS) (a1 : Int32) (res : Int32) (h : f_X1_firstCover μ a1 = some res) : Met l yX1_firstCover (ws_ yX1_firstCover cX1_firstCover 3 (some .int)) rm_X1_firstCover (PR z0 D t [.ref (G 0), .int a1] (GW G t μ)) (QR (some (.int res))) 0 0 FN := by
  refine Met.ofW (cc := cX1_firstCover) (maxL := 3) (ret := (some .int)) (by decide) rfl ?_
  intro p e s m args below meth c s₁ Bo hml hv
  obtain ⟨rfl, hC, hP⟩ := hv
  have hx := Bo.exec
  have hb := Bo.bytes
  have hr := Bo.returns
  have hts : ∀ w ∈ LA, w.before _ s = true := fun w hw => atoms_spec (ws := ws_ yX1_firstCover cX1_firstCover 3 (some .int)) Bo.pre w (List.mem_cons_of_mem _ hw)
  have hown : s.vm.findClass RX1 = some m.cls := findClass_of_methodNamed Bo.named
  have hlocks := Bo.notSynchronized
  have hK := hC.1
  have hl := lv_entry ([.ref (G 0), .int a1]) (n := 3) (Nat.le_of_ble_eq_true rfl)
  rw [lg_entry_eq]
  generalize (lg_sl ([.ref (G 0), .int a1]) ++ List.replicate (3 - (lg_sl ([.ref (G 0), .int a1])).length) Slot.unset).toArray = ls at hl ⊢
  have hl : lv_has ls 3 [(0, .ref (G 0)), (1, .int a1)] := hl
  unfold f_X1_firstCover at h
  refine lv_iconst (v := (0)) hx hb dX1_firstCover_0 (by decide) ?_
  refine lv_istore_n (lv' := [(2, .int (0 : Int32)), (0, .ref (G 0)), (1, .int a1)]) hx hb dX1_firstCover_1 rfl hl (by decide) rfl (fun ls hl => ?_)
  obtain ⟨o11, eo11, h⟩ := obind h
  have hL2 : ∀ (n : Nat) (y2_2 : Int32) (o11 : (Unit) ⊕ (Int32)), f_X1_firstCover_L2 a1 μ n y2_2 = some o11 → (∀ o11l, o11 = .inl o11l → ∀ (ls : Array Slot), lv_has ls 3 [] → W p l e (headSpec (ws_ yX1_firstCover cX1_firstCover 3 (some .int)) rm_X1_firstCover).room s m ([.ref (G 0), .int a1] : List Value).toArray below meth c s.heap [] 0 0 (MQ below (QR (some (.int res))) ([.ref (G 0), .int a1] : List Value).toArray s 0 0 FN) (F0 m 40 ls [])) → (∀ r9, o11 = .inr r9 → r9 = res) → ∀ (ls : Array Slot), lv_has ls 3 [(0, .ref (G 0)), (1, .int a1), (2, .int y2_2)] → W p l e (headSpec (ws_ yX1_firstCover cX1_firstCover 3 (some .int)) rm_X1_firstCover).room s m ([.ref (G 0), .int a1] : List Value).toArray below meth c s.heap [] 0 0 (MQ below (QR (some (.int res))) ([.ref (G 0), .int a1] : List Value).toArray s 0 0 FN) (F0 m 2 ls []) := by
    intro n
    induction n with
    | zero => intro y2_2 o11 h; exact absurd h (fun z => by cases z)
    | succ n ih =>
      intro y2_2 o11 h hK2 hR2 ls hl
      replace h : f_X1_firstCover_L2_b a1 μ (f_X1_firstCover_L2 a1 μ n) y2_2 = some o11 := h
      unfold f_X1_firstCover_L2_b at h
      refine lv_iload_n hx hb dX1_firstCover_2 rfl (lv_at hl 2 rfl) ?_
      refine lv_bipush (v := (16)) hx hb dX1_firstCover_3 (by decide) ?_
      refine lv_icmp_ge (tgt := 40) hx hb dX1_firstCover_5 (by decide) (fun hc => ?_) (fun hc => ?_)
      · have h := iteT hc h
        obtain rfl := Option.some.inj h
        exact hK2 _ rfl ls (lv_sub hl [] rfl)
      · have h := iteF hc h
        refine lv_aload_n hx hb dX1_firstCover_8 rfl (lv_at hl 0 rfl) ?_
        refine lv_iload_n hx hb dX1_firstCover_9 rfl (lv_at hl 1 rfl) ?_
        refine lv_iload_n hx hb dX1_firstCover_10 rfl (lv_at hl 2 rfl) ?_
        obtain ⟨r12, er12, h⟩ := obind h
        refine call_R (va_runV (As := [.int a1, .int y2_2]) (rest := []) ⟨hx, hb, hml, hown, hts⟩ (c_X1_couldCover l z0 D t G μ a1 y2_2 _ er12) (kV hts qw776 qw778 qs23 qw8 qw779 ok_X1_couldCover ⟨Nat.le_of_ble_eq_true rfl, Nat.le_of_ble_eq_true rfl⟩) ⟨PR.blind, va_recv hK hP (ci := 2) (q0 := 0) rfl rfl, fun U hU hW => ⟨rfl, by rw [hU]; exact hC.warm hW, by rw [hU]; exact hP⟩⟩ rfl rfl hl.1 rfl (lv_room (Nat.le_of_ble_eq_true rfl)) dX1_firstCover_11 ⟨Nat.le_of_ble_eq_true rfl, Nat.le_of_ble_eq_true rfl⟩) ?_
        refine lv_if_eq (tgt := 34) hx hb dX1_firstCover_14 (by decide) (fun hc => ?_) (fun hc => ?_)
        · have h := iteT hc h
          obtain ⟨x13, ex13, h⟩ := jlet_some h
          refine lv_iinc (v := x13) (lv' := [(2, .int x13), (0, .ref (G 0)), (1, .int a1)]) hx hb dX1_firstCover_34 hl (k := 2) rfl (by rw [ex13]; rfl) (by decide) rfl (fun ls hl => ?_)
          refine lv_goto (tgt := 2) hx hb dX1_firstCover_37 (by decide) ?_
          exact ih _ _ h hK2 hR2 ls (lv_sub hl [1, 2, 0] rfl)
        · have h := iteF hc h
          refine lv_iload_n hx hb dX1_firstCover_17 rfl (lv_at hl 1 rfl) ?_
          refine lv_iload_n hx hb dX1_firstCover_18 rfl (lv_at hl 2 rfl) ?_
          obtain ⟨r14, er14, h⟩ := obind h
          refine call_R (va_runS (As := [.int a1, .int y2_2]) (rest := []) ⟨hx, hb, hml, hown, hts⟩ (c_X1_coverX l z0 D t a1 y2_2 _ er14) (kS hts qw780 qw781 qw8 qw782 ok_X1_coverX ⟨Nat.le_of_ble_eq_true rfl, Nat.le_of_ble_eq_true rfl⟩) ⟨PR.blind, fun U hU hW => ⟨rfl, by rw [hU]; exact hC.warm hW, by rw [hU]; exact va_P_nil⟩⟩ rfl rfl hl.1 rfl (lv_room (Nat.le_of_ble_eq_true rfl)) dX1_firstCover_19 ⟨Nat.le_of_ble_eq_true rfl, Nat.le_of_ble_eq_true rfl⟩) ?_
          refine lv_iload_n hx hb dX1_firstCover_22 rfl (lv_at hl 1 rfl) ?_
          refine lv_iload_n hx hb dX1_firstCover_23 rfl (lv_at hl 2 rfl) ?_
          obtain ⟨r15, er15, h⟩ := obind h
          refine call_R (va_runS (As := [.int a1, .int y2_2]) (rest := [.int r14]) ⟨hx, hb, hml, hown, hts⟩ (c_X1_coverY l z0 D t a1 y2_2 _ er15) (kS hts qw783 qw784 qw8 qw785 ok_X1_coverY ⟨Nat.le_of_ble_eq_true rfl, Nat.le_of_ble_eq_true rfl⟩) ⟨PR.blind, fun U hU hW => ⟨rfl, by rw [hU]; exact hC.warm hW, by rw [hU]; exact va_P_nil⟩⟩ rfl rfl hl.1 rfl (lv_room (Nat.le_of_ble_eq_true rfl)) dX1_firstCover_24 ⟨Nat.le_of_ble_eq_true rfl, Nat.le_of_ble_eq_true rfl⟩) ?_
          refine lv_iload_n hx hb dX1_firstCover_27 rfl (lv_at hl 2 rfl) ?_
          refine lv_iconst (v := (4)) hx hb dX1_firstCover_28 (by decide) ?_
          refine lv_idiv hx hb dX1_firstCover_29 (by decide) ?_
          obtain ⟨r16, er16, h⟩ := obind h
          refine call_R (va_runSN (As := [.int r14, .int r15, .int (y2_2 / (4 : Int32))]) (rest := []) ⟨hx, hb, hml, hown, hts⟩ (c_X4_nameOf l z0 D t r14 r15 (y2_2 / (4 : Int32)) _ er16) ⟨kN hts (hC.2.1 _ qw626) qw1 qw628 ok_X4_nameOf ⟨Nat.le_of_ble_eq_true rfl, Nat.le_of_ble_eq_true rfl⟩, hts _ qw627, trivial⟩ ⟨PR.blind, fun U hU hW => ⟨rfl, by rw [hU]; exact hC.warm hW, by rw [hU]; exact va_P_nil⟩⟩ rfl rfl hl.1 rfl (lv_room (Nat.le_of_ble_eq_true rfl)) dX1_firstCover_30 ⟨Nat.le_of_ble_eq_true rfl, Nat.le_of_ble_eq_true rfl⟩) ?_
          have e9 := hR2 _ (Option.some.inj h).symm
          subst e9
          exact W.iret hx hb hr (fun t ht hW => ⟨rfl, ht⟩) (fun q hq => absurd hq List.not_mem_nil) dX1_firstCover_33
  refine hL2 _ _ _ eo11 (fun o11l eq9 ls hl => ?_) (fun r9 eq9 => ?_) ls (lv_sub hl [1, 2, 0] rfl)
  · subst eq9
    replace h := sumL h
    refine lv_iconst (v := (-1)) hx hb dX1_firstCover_40 (by decide) ?_
    obtain rfl := Option.some.inj h
    exact W.iret hx hb hr (fun t ht hW => ⟨rfl, ht⟩) (fun q hq => absurd hq List.not_mem_nil) dX1_firstCover_41
  · subst eq9
    replace h := sumR h
    exact Option.some.inj h

abbrev rm_X2_leastTurn : Room := { frames := 3, cells := 0, slots := 0, locals := 83 }
theorem ok_X2_leastTurn : okY yX2_leastTurn 2 := ⟨by decide +kernel, by decide +kernel, by decide +kernel⟩
set_option maxHeartbeats 4000000 in
set_option maxRecDepth 100000 in
theorem c_X2_leastTurn (l : Launch) (z0 : Nat) (D : va_G) (t : Nat → ClassId) (A : Nat → Nat) (B : Nat → Nat) (μ : VS) (a1 : Int32) (a2 : Int32) (res : Int32) (h : f_X2_leastTurn μ a1 a2 = some res) : Met l yX2_leastTurn (ws_ yX2_leastTurn cX2_leastTurn 4 (some .int)) rm_X2_leastTurn (PR z0 D t [.ref (A 0), .int a1, .int a2] (VW A B t μ)) (QR (some (.int res))) 0 0 FN := by
  refine Met.ofW (cc := cX2_leastTurn) (maxL := 4) (ret := (some .int)) (by decide) rfl ?_
  intro p e s m args below meth c s₁ Bo hml hv
  obtain ⟨rfl, hC, hP⟩ := hv
  have hx := Bo.exec
  have hb := Bo.bytes
  have hr := Bo.returns
  have hts : ∀ w ∈ LA, w.before _ s = true := fun w hw => atoms_spec (ws := ws_ yX2_leastTurn cX2_leastTurn 4 (some .int)) Bo.pre w (List.mem_cons_of_mem _ hw)
  have hown : s.vm.findClass RX2 = some m.cls := findClass_of_methodNamed Bo.named
  have hlocks := Bo.notSynchronized
  have hK := hC.1
  have hl := lv_entry ([.ref (A 0), .int a1, .int a2]) (n := 4) (Nat.le_of_ble_eq_true rfl)
  rw [lg_entry_eq]
  generalize (lg_sl ([.ref (A 0), .int a1, .int a2]) ++ List.replicate (4 - (lg_sl ([.ref (A 0), .int a1, .int a2])).length) Slot.unset).toArray = ls at hl ⊢
  have hl : lv_has ls 4 [(0, .ref (A 0)), (1, .int a1), (2, .int a2)] := hl
  unfold f_X2_leastTurn at h
  refine lv_iconst (v := (0)) hx hb dX2_leastTurn_0 (by decide) ?_
  refine lv_istore_n (lv' := [(3, .int (0 : Int32)), (0, .ref (A 0)), (1, .int a1), (2, .int a2)]) hx hb dX2_leastTurn_1 rfl hl (by decide) rfl (fun ls hl => ?_)
  obtain ⟨o11, eo11, h⟩ := obind h
  have hL2 : ∀ (n : Nat) (y3_2 : Int32) (o11 : (Unit) ⊕ (Int32)), f_X2_leastTurn_L2 a1 a2 μ n y3_2 = some o11 → (∀ o11l, o11 = .inl o11l → ∀ (ls : Array Slot), lv_has ls 4 [] → W p l e (headSpec (ws_ yX2_leastTurn cX2_leastTurn 4 (some .int)) rm_X2_leastTurn).room s m ([.ref (A 0), .int a1, .int a2] : List Value).toArray below meth c s.heap [] 0 0 (MQ below (QR (some (.int res))) ([.ref (A 0), .int a1, .int a2] : List Value).toArray s 0 0 FN) (F0 m 40 ls [])) → (∀ r9, o11 = .inr r9 → r9 = res) → ∀ (ls : Array Slot), lv_has ls 4 [(0, .ref (A 0)), (1, .int a1), (2, .int a2), (3, .int y3_2)] → W p l e (headSpec (ws_ yX2_leastTurn cX2_leastTurn 4 (some .int)) rm_X2_leastTurn).room s m ([.ref (A 0), .int a1, .int a2] : List Value).toArray below meth c s.heap [] 0 0 (MQ below (QR (some (.int res))) ([.ref (A 0), .int a1, .int a2] : List Value).toArray s 0 0 FN) (F0 m 2 ls []) := by
    intro n
    induction n with
    | zero => intro y3_2 o11 h; exact absurd h (fun z => by cases z)
    | succ n ih =>
      intro y3_2 o11 h hK2 hR2 ls hl
      replace h : f_X2_leastTurn_L2_b a1 a2 μ (f_X2_leastTurn_L2 a1 a2 μ n) y3_2 = some o11 := h
      unfold f_X2_leastTurn_L2_b at h
      refine lv_iload_n hx hb dX2_leastTurn_2 rfl (lv_at hl 3 rfl) ?_
      refine lv_iconst (v := (4)) hx hb dX2_leastTurn_3 (by decide) ?_
      refine lv_icmp_ge (tgt := 40) hx hb dX2_leastTurn_4 (by decide) (fun hc => ?_) (fun hc => ?_)
      · have h := iteT hc h
        obtain rfl := Option.some.inj h
        exact hK2 _ rfl ls (lv_sub hl [] rfl)
      · have h := iteF hc h
        refine lv_aload_n hx hb dX2_leastTurn_7 rfl (lv_at hl 0 rfl) ?_
        refine lv_iload_n hx hb dX2_leastTurn_8 rfl (lv_at hl 3 rfl) ?_
        refine lv_iload_n hx hb dX2_leastTurn_9 rfl (lv_at hl 2 rfl) ?_
        obtain ⟨r12, er12, h⟩ := obind h
        refine call_R (va_runV (As := [.int y3_2, .int a2]) (rest := []) ⟨hx, hb, hml, hown, hts⟩ (c_X2_isOpen l z0 D t A ((v_takes μ), (v_u1 μ), (v_u2 μ)) y3_2 a2 _ er12) (kV hts qw316 qw318 qs6 qw6 qw319 ok_X2_isOpen ⟨Nat.le_of_ble_eq_true rfl, Nat.le_of_ble_eq_true rfl⟩) ⟨PR.blind, va_recv hK (sub_V_P (μ := μ) hP) (ci := 3) (q0 := 0) rfl rfl, fun U hU hW => ⟨rfl, by rw [hU]; exact hC.warm hW, by rw [hU]; exact (sub_V_P (μ := μ) hP)⟩⟩ rfl rfl hl.1 rfl (lv_room (Nat.le_of_ble_eq_true rfl)) dX2_leastTurn_10 ⟨Nat.le_of_ble_eq_true rfl, Nat.le_of_ble_eq_true rfl⟩) ?_
        refine lv_if_eq (tgt := 34) hx hb dX2_leastTurn_13 (by decide) (fun hc => ?_) (fun hc => ?_)
        · have h := iteT hc h
          obtain ⟨x13, ex13, h⟩ := jlet_some h
          refine lv_iinc (v := x13) (lv' := [(3, .int x13), (0, .ref (A 0)), (1, .int a1), (2, .int a2)]) hx hb dX2_leastTurn_34 hl (k := 3) rfl (by rw [ex13]; rfl) (by decide) rfl (fun ls hl => ?_)
          refine lv_goto (tgt := 2) hx hb dX2_leastTurn_37 (by decide) ?_
          exact ih _ _ h hK2 hR2 ls (lv_sub hl [1, 2, 3, 0] rfl)
        · have h := iteF hc h
          refine lv_aload_n hx hb dX2_leastTurn_16 rfl (lv_at hl 0 rfl) ?_
          refine lv_iload_n hx hb dX2_leastTurn_17 rfl (lv_at hl 1 rfl) ?_
          refine lv_iconst (v := (1)) hx hb dX2_leastTurn_18 (by decide) ?_
          refine lv_iadd hx hb dX2_leastTurn_19 ?_
          refine lv_aload_n hx hb dX2_leastTurn_20 rfl (lv_at hl 0 rfl) ?_
          refine lv_iload_n hx hb dX2_leastTurn_21 rfl (lv_at hl 3 rfl) ?_
          refine lv_iload_n hx hb dX2_leastTurn_22 rfl (lv_at hl 2 rfl) ?_
          obtain ⟨r14, er14, h⟩ := obind h
          refine call_R (va_runV (As := [.int y3_2, .int a2]) (rest := [.int (a1 + (1 : Int32)), .ref (A 0)]) ⟨hx, hb, hml, hown, hts⟩ (c_X2_windowAfter l z0 D t A ((v_takes μ), (v_u1 μ), (v_u2 μ)) y3_2 a2 _ er14) (kV hts qw320 qw322 qs7 qw6 qw323 ok_X2_windowAfter ⟨Nat.le_of_ble_eq_true rfl, Nat.le_of_ble_eq_true rfl⟩) ⟨PR.blind, va_recv hK (sub_V_P (μ := μ) hP) (ci := 3) (q0 := 0) rfl rfl, fun U hU hW => ⟨rfl, by rw [hU]; exact hC.warm hW, by rw [hU]; exact (sub_V_P (μ := μ) hP)⟩⟩ rfl rfl hl.1 rfl (lv_room (Nat.le_of_ble_eq_true rfl)) dX2_leastTurn_23 ⟨Nat.le_of_ble_eq_true rfl, Nat.le_of_ble_eq_true rfl⟩) ?_
          obtain ⟨r15, er15, h⟩ := obind h
          refine call_R (va_runV (As := [.int (a1 + (1 : Int32)), .int r14]) (rest := []) ⟨hx, hb, hml, hown, hts⟩ (c_X2_restFrom l z0 D t A B μ (a1 + (1 : Int32)) r14 _ er15) (kV hts qw366 qw368 qs13 qw6 qw369 ok_X2_restFrom ⟨Nat.le_of_ble_eq_true rfl, Nat.le_of_ble_eq_true rfl⟩) ⟨PR.blind, va_recv hK hP (ci := 3) (q0 := 0) rfl rfl, fun U hU hW => ⟨rfl, by rw [hU]; exact hC.warm hW, by rw [hU]; exact hP⟩⟩ rfl rfl hl.1 rfl (lv_room (Nat.le_of_ble_eq_true rfl)) dX2_leastTurn_26 ⟨Nat.le_of_ble_eq_true rfl, Nat.le_of_ble_eq_true rfl⟩) ?_
          refine lv_if_eq (tgt := 34) hx hb dX2_leastTurn_29 (by decide) (fun hc => ?_) (fun hc => ?_)
          · have h := iteT hc h
            obtain ⟨x16, ex16, h⟩ := jlet_some h
            refine lv_iinc (v := x16) (lv' := [(3, .int x16), (0, .ref (A 0)), (1, .int a1), (2, .int a2)]) hx hb dX2_leastTurn_34 hl (k := 3) rfl (by rw [ex16]; rfl) (by decide) rfl (fun ls hl => ?_)
            refine lv_goto (tgt := 2) hx hb dX2_leastTurn_37 (by decide) ?_
            exact ih _ _ h hK2 hR2 ls (lv_sub hl [1, 2, 3, 0] rfl)
          · have h := iteF hc h
            refine lv_iload_n hx hb dX2_leastTurn_32 rfl (lv_at hl 3 rfl) ?_
            have e9 := hR2 _ (Option.some.inj h).symm
            subst e9
            exact W.iret hx hb hr (fun t ht hW => ⟨rfl, ht⟩) (fun q hq => absurd hq List.not_mem_nil) dX2_leastTurn_33
  refine hL2 _ _ _ eo11 (fun o11l eq9 ls hl => ?_) (fun r9 eq9 => ?_) ls (lv_sub hl [1, 2, 3, 0] rfl)
  · subst eq9
    replace h := sumL h
    refine lv_iconst (v := (-1)) hx hb dX2_leastTurn_40 (by decide) ?_
    obtain rfl := Option.some.inj h
    exact W.iret hx hb hr (fun t ht hW => ⟨rfl, ht⟩) (fun q hq => absurd hq List.not_mem_nil) dX2_leastTurn_41
  · subst eq9
    replace h := sumR h
    exact Option.some.inj h
