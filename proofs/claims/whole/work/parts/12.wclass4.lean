abbrev rm_X1_isFlippable : Room := { frames := 3, cells := 0, slots := 0, locals := 85 }
theorem ok_X1_isFlippable : okY yX1_isFlippable 3 := ⟨by decide +kernel, by decide +kernel, by decide +kernel⟩
set_option maxHeartbeats 4000000 in
set_option maxRecDepth 100000 in
theorem c_X1_isFlippable (l : Launch) (z0 : Nat) (D : va_G) (t : Nat → ClassId) (G : Nat → Nat) (μ : GS) (a1 : Int32) (a2 : Int32) (a3 : Int32) (res : Int32) (h : f_X1_isFlippable μ a1 a2 a3 = some res) : Met l yX1_isFlippable (ws_ yX1_isFlippable cX1_isFlippable 8 (some .boolean)) rm_X1_isFlippable (PR z0 D t [.ref (G 0), .int a1, .int a2, .int a3] (GW G t μ)) (QR (some (.int res))) 0 0 FN := by
  refine Met.ofW (cc := cX1_isFlippable) (maxL := 8) (ret := (some .boolean)) (by decide) rfl ?_
  intro p e s m args below meth c s₁ Bo hml hv
  obtain ⟨rfl, hC, hP⟩ := hv
  have hx := Bo.exec
  have hb := Bo.bytes
  have hr := Bo.returns
  have hts : ∀ w ∈ LA, w.before _ s = true := fun w hw => atoms_spec (ws := ws_ yX1_isFlippable cX1_isFlippable 8 (some .boolean)) Bo.pre w (List.mem_cons_of_mem _ hw)
  have hown : s.vm.findClass RX1 = some m.cls := findClass_of_methodNamed Bo.named
  have hlocks := Bo.notSynchronized
  have hK := hC.1
  have hl := lv_entry ([.ref (G 0), .int a1, .int a2, .int a3]) (n := 8) (Nat.le_of_ble_eq_true rfl)
  rw [lg_entry_eq]
  generalize (lg_sl ([.ref (G 0), .int a1, .int a2, .int a3]) ++ List.replicate (8 - (lg_sl ([.ref (G 0), .int a1, .int a2, .int a3])).length) Slot.unset).toArray = ls at hl ⊢
  have hl : lv_has ls 8 [(0, .ref (G 0)), (1, .int a1), (2, .int a2), (3, .int a3)] := hl
  unfold f_X1_isFlippable at h
  refine lv_aload_n hx hb dX1_isFlippable_0 rfl (lv_at hl 0 rfl) ?_
  refine lv_iload_n hx hb dX1_isFlippable_1 rfl (lv_at hl 1 rfl) ?_
  refine lv_iload_n hx hb dX1_isFlippable_2 rfl (lv_at hl 2 rfl) ?_
  obtain ⟨r1, er1, h⟩ := obind h
  refine call_R (va_runSN (As := [.int a1, .int a2]) (rest := [.ref (G 0)]) ⟨hx, hb, hml, hown, hts⟩ (c_X4_cellAt l z0 D t a1 a2 _ er1) ⟨kN hts (hC.2.1 _ qw442) qw1 qw236 ok_X4_cellAt ⟨Nat.le_of_ble_eq_true rfl, Nat.le_of_ble_eq_true rfl⟩, hts _ qw235, trivial⟩ ⟨PR.blind, fun U hU hW => ⟨rfl, by rw [hU]; exact hC.warm hW, by rw [hU]; exact va_P_nil⟩⟩ rfl rfl hl.1 rfl (lv_room (Nat.le_of_ble_eq_true rfl)) dX1_isFlippable_3 ⟨Nat.le_of_ble_eq_true rfl, Nat.le_of_ble_eq_true rfl⟩) ?_
  obtain ⟨r2, er2, h⟩ := obind h
  refine call_R (va_runV (As := [.long r1]) (rest := []) ⟨hx, hb, hml, hown, hts⟩ (c_X1_tripleOver l z0 D t G μ r1 _ er2) (kV hts qw443 qw444 qw445 qw8 qw446 ok_X1_tripleOver ⟨Nat.le_of_ble_eq_true rfl, Nat.le_of_ble_eq_true rfl⟩) ⟨PR.blind, va_recv hK hP (ci := 2) (q0 := 0) rfl rfl, fun U hU hW => ⟨rfl, by rw [hU]; exact hC.warm hW, by rw [hU]; exact hP⟩⟩ rfl rfl hl.1 rfl (lv_room (Nat.le_of_ble_eq_true rfl)) dX1_isFlippable_6 ⟨Nat.le_of_ble_eq_true rfl, Nat.le_of_ble_eq_true rfl⟩) ?_
  refine lv_istore (lv' := [(4, .int r2), (0, .ref (G 0)), (1, .int a1), (2, .int a2), (3, .int a3)]) hx hb dX1_isFlippable_9 hl (by decide) rfl (fun ls hl => ?_)
  refine lv_aload_n hx hb dX1_isFlippable_11 rfl (lv_at hl 1 rfl) ?_
  refine lv_iload_n hx hb dX1_isFlippable_12 rfl (lv_at hl 2 rfl) ?_
  refine lv_iload_n hx hb dX1_isFlippable_13 rfl (lv_at hl 3 rfl) ?_
  refine lv_iload_n hx hb dX1_isFlippable_14 rfl (lv_at hl 4 rfl) ?_
  obtain ⟨r3, er3, h⟩ := obind h
  refine call_R (va_runS (As := [.int a1, .int a2, .int a3]) (rest := [.ref (G 0)]) ⟨hx, hb, hml, hown, hts⟩ (c_X1_lastFlipCell l z0 D t a1 a2 a3 _ er3) (kS hts qw464 qw465 qw8 qw466 ok_X1_lastFlipCell ⟨Nat.le_of_ble_eq_true rfl, Nat.le_of_ble_eq_true rfl⟩) ⟨PR.blind, fun U hU hW => ⟨rfl, by rw [hU]; exact hC.warm hW, by rw [hU]; exact va_P_nil⟩⟩ rfl rfl hl.1 rfl (lv_room (Nat.le_of_ble_eq_true rfl)) dX1_isFlippable_15 ⟨Nat.le_of_ble_eq_true rfl, Nat.le_of_ble_eq_true rfl⟩) ?_
  obtain ⟨r4, er4, h⟩ := obind h
  refine call_R (va_runV (As := [.long r3]) (rest := []) ⟨hx, hb, hml, hown, hts⟩ (c_X1_tripleOver l z0 D t G μ r3 _ er4) (kV hts qw443 qw444 qw445 qw8 qw446 ok_X1_tripleOver ⟨Nat.le_of_ble_eq_true rfl, Nat.le_of_ble_eq_true rfl⟩) ⟨PR.blind, va_recv hK hP (ci := 2) (q0 := 0) rfl rfl, fun U hU hW => ⟨rfl, by rw [hU]; exact hC.warm hW, by rw [hU]; exact hP⟩⟩ rfl rfl hl.1 rfl (lv_room (Nat.le_of_ble_eq_true rfl)) dX1_isFlippable_18 ⟨Nat.le_of_ble_eq_true rfl, Nat.le_of_ble_eq_true rfl⟩) ?_
  refine lv_istore (lv' := [(5, .int r4), (4, .int r2), (0, .ref (G 0)), (1, .int a1), (2, .int a2), (3, .int a3)]) hx hb dX1_isFlippable_21 hl (by decide) rfl (fun ls hl => ?_)
  refine lv_iload hx hb dX1_isFlippable_23 (lv_at hl 1 rfl) ?_
  refine lv_iconst (v := (-1)) hx hb dX1_isFlippable_25 (by decide) ?_
  refine lv_icmp_eq (tgt := 35) hx hb dX1_isFlippable_26 (by decide) (fun hc => ?_) (fun hc => ?_)
  · have h := iteT hc h
    refine lv_iconst (v := (0)) hx hb dX1_isFlippable_35 (by decide) ?_
    obtain rfl := Option.some.inj h
    exact W.zret hx hb hr rfl (fun t ht hW => ⟨rfl, ht⟩) (fun q hq => absurd hq List.not_mem_nil) dX1_isFlippable_36
  · have h := iteF hc h
    refine lv_iload hx hb dX1_isFlippable_29 (lv_at hl 0 rfl) ?_
    refine lv_iconst (v := (-1)) hx hb dX1_isFlippable_31 (by decide) ?_
    refine lv_icmp_ne (tgt := 37) hx hb dX1_isFlippable_32 (by decide) (fun hc => ?_) (fun hc => ?_)
    · have h := iteF hc h
      refine lv_iload_n hx hb dX1_isFlippable_37 rfl (lv_at hl 3 rfl) ?_
      refine lv_iload_n hx hb dX1_isFlippable_38 rfl (lv_at hl 4 rfl) ?_
      refine lv_iload_n hx hb dX1_isFlippable_39 rfl (lv_at hl 5 rfl) ?_
      obtain ⟨o5, eo5, h⟩ := obind h
      have hJ48_o5 : ∀ ls : Array Slot, lv_has ls 8 [(0, .ref (G 0)), (3, .int a3), (4, .int r2), (5, .int r4)] → W p l e (headSpec (ws_ yX1_isFlippable cX1_isFlippable 8 (some .boolean)) rm_X1_isFlippable).room s m ([.ref (G 0), .int a1, .int a2, .int a3] : List Value).toArray below meth c s.heap [] 0 0 (MQ below (QR (some (.int res))) ([.ref (G 0), .int a1, .int a2, .int a3] : List Value).toArray s 0 0 FN) (F0 m 48 ls [.int o5, .int a2, .int a1]) := by
        intro ls hl
        refine lv_iload_n hx hb dX1_isFlippable_48 rfl (lv_at hl 1 rfl) ?_
        obtain ⟨o6, eo6, h⟩ := obind h
        have hJ57_o6 : ∀ ls : Array Slot, lv_has ls 8 [(0, .ref (G 0)), (4, .int r2), (5, .int r4)] → W p l e (headSpec (ws_ yX1_isFlippable cX1_isFlippable 8 (some .boolean)) rm_X1_isFlippable).room s m ([.ref (G 0), .int a1, .int a2, .int a3] : List Value).toArray below meth c s.heap [] 0 0 (MQ below (QR (some (.int res))) ([.ref (G 0), .int a1, .int a2, .int a3] : List Value).toArray s 0 0 FN) (F0 m 57 ls [.int o6, .int o5, .int a2, .int a1]) := by
          intro ls hl
          obtain ⟨r7, er7, h⟩ := obind h
          refine call_R (va_runS (As := [.int a1, .int a2, .int o5, .int o6]) (rest := []) ⟨hx, hb, hml, hown, hts⟩ (c_X1_blockCells l z0 D t a1 a2 o5 o6 _ er7) (kS hts qw246 qw247 qw8 qw248 ok_X1_blockCells ⟨Nat.le_of_ble_eq_true rfl, Nat.le_of_ble_eq_true rfl⟩) ⟨PR.blind, fun U hU hW => ⟨rfl, by rw [hU]; exact hC.warm hW, by rw [hU]; exact va_P_nil⟩⟩ rfl rfl hl.1 rfl (lv_room (Nat.le_of_ble_eq_true rfl)) dX1_isFlippable_57 ⟨Nat.le_of_ble_eq_true rfl, Nat.le_of_ble_eq_true rfl⟩) ?_
          refine lv_lstore (lv' := [(6, .long r7), (0, .ref (G 0)), (4, .int r2), (5, .int r4)]) hx hb dX1_isFlippable_60 hl (by decide) rfl (fun ls hl => ?_)
          refine lv_aload_n hx hb dX1_isFlippable_62 rfl (lv_at hl 1 rfl) ?_
          refine lv_iload hx hb dX1_isFlippable_63 (lv_at hl 2 rfl) ?_
          obtain ⟨r8, er8, h⟩ := obind h
          refine call_R (va_runV (As := [.int r2]) (rest := []) ⟨hx, hb, hml, hown, hts⟩ (c_X1_tripleCells l z0 D t G μ r2 _ er8) (kV hts qw447 qw449 qs15 qw8 qw450 ok_X1_tripleCells ⟨Nat.le_of_ble_eq_true rfl, Nat.le_of_ble_eq_true rfl⟩) ⟨PR.blind, va_recv hK hP (ci := 2) (q0 := 0) rfl rfl, fun U hU hW => ⟨rfl, by rw [hU]; exact hC.warm hW, by rw [hU]; exact hP⟩⟩ rfl rfl hl.1 rfl (lv_room (Nat.le_of_ble_eq_true rfl)) dX1_isFlippable_65 ⟨Nat.le_of_ble_eq_true rfl, Nat.le_of_ble_eq_true rfl⟩) ?_
          refine lv_aload_n hx hb dX1_isFlippable_68 rfl (lv_at hl 1 rfl) ?_
          refine lv_iload hx hb dX1_isFlippable_69 (lv_at hl 3 rfl) ?_
          obtain ⟨r9, er9, h⟩ := obind h
          refine call_R (va_runV (As := [.int r4]) (rest := [.long r8]) ⟨hx, hb, hml, hown, hts⟩ (c_X1_tripleCells l z0 D t G μ r4 _ er9) (kV hts qw447 qw449 qs15 qw8 qw450 ok_X1_tripleCells ⟨Nat.le_of_ble_eq_true rfl, Nat.le_of_ble_eq_true rfl⟩) ⟨PR.blind, va_recv hK hP (ci := 2) (q0 := 0) rfl rfl, fun U hU hW => ⟨rfl, by rw [hU]; exact hC.warm hW, by rw [hU]; exact hP⟩⟩ rfl rfl hl.1 rfl (lv_room (Nat.le_of_ble_eq_true rfl)) dX1_isFlippable_71 ⟨Nat.le_of_ble_eq_true rfl, Nat.le_of_ble_eq_true rfl⟩) ?_
          refine lv_lor hx hb dX1_isFlippable_74 ?_
          refine lv_lload hx hb dX1_isFlippable_75 (lv_at hl 0 rfl) ?_
          refine W.lcmp hx hb dX1_isFlippable_77 ?_
          refine lv_if_ne (tgt := 85) hx hb dX1_isFlippable_78 (by decide) (fun hc => ?_) (fun hc => ?_)
          · have h := iteF hc h
            refine lv_iconst (v := (0)) hx hb dX1_isFlippable_85 (by decide) ?_
            obtain rfl := Option.some.inj h
            exact W.zret hx hb hr rfl (fun t ht hW => ⟨rfl, ht⟩) (fun q hq => absurd hq List.not_mem_nil) dX1_isFlippable_86
          · have h := iteT hc h
            refine lv_iconst (v := (1)) hx hb dX1_isFlippable_81 (by decide) ?_
            refine lv_goto (tgt := 86) hx hb dX1_isFlippable_82 (by decide) ?_
            obtain rfl := Option.some.inj h
            exact W.zret hx hb hr rfl (fun t ht hW => ⟨rfl, ht⟩) (fun q hq => absurd hq List.not_mem_nil) dX1_isFlippable_86
        have h := eo6
        clear eo6
        refine lv_if_eq (tgt := 56) hx hb dX1_isFlippable_49 (by decide) (fun hc => ?_) (fun hc => ?_)
        · have h := iteT hc h
          refine lv_iconst (v := (2)) hx hb dX1_isFlippable_56 (by decide) ?_
          obtain rfl := Option.some.inj h
          exact hJ57_o6 ls (lv_sub hl [0, 2, 3] rfl)
        · have h := iteF hc h
          refine lv_iconst (v := (3)) hx hb dX1_isFlippable_52 (by decide) ?_
          refine lv_goto (tgt := 57) hx hb dX1_isFlippable_53 (by decide) ?_
          obtain rfl := Option.some.inj h
          exact hJ57_o6 ls (lv_sub hl [0, 2, 3] rfl)
      have h := eo5
      clear eo5
      refine lv_if_eq (tgt := 47) hx hb dX1_isFlippable_40 (by decide) (fun hc => ?_) (fun hc => ?_)
      · have h := iteT hc h
        refine lv_iconst (v := (3)) hx hb dX1_isFlippable_47 (by decide) ?_
        obtain rfl := Option.some.inj h
        exact hJ48_o5 ls (lv_sub hl [2, 5, 1, 0] rfl)
      · have h := iteF hc h
        refine lv_iconst (v := (2)) hx hb dX1_isFlippable_43 (by decide) ?_
        refine lv_goto (tgt := 48) hx hb dX1_isFlippable_44 (by decide) ?_
        obtain rfl := Option.some.inj h
        exact hJ48_o5 ls (lv_sub hl [2, 5, 1, 0] rfl)
    · have h := iteT hc h
      refine lv_iconst (v := (0)) hx hb dX1_isFlippable_35 (by decide) ?_
      obtain rfl := Option.some.inj h
      exact W.zret hx hb hr rfl (fun t ht hW => ⟨rfl, ht⟩) (fun q hq => absurd hq List.not_mem_nil) dX1_isFlippable_36

abbrev rm_X1_flippableBlocks : Room := { frames := 4, cells := 0, slots := 0, locals := 112 }
theorem ok_X1_flippableBlocks : okY yX1_flippableBlocks 0 := ⟨by decide +kernel, by decide +kernel, by decide +kernel⟩
set_option maxHeartbeats 4000000 in
set_option maxRecDepth 100000 in
theorem c_X1_flippableBlocks (l : Launch) (z0 : Nat) (D : va_G) (t : Nat → ClassId) (G : Nat → Nat) (μ : GS) (res : Int32) (h : f_X1_flippableBlocks μ = some res) : Met l yX1_flippableBlocks (ws_ yX1_flippableBlocks cX1_flippableBlocks 4 (some .int)) rm_X1_flippableBlocks (PR z0 D t [.ref (G 0)] (GW G t μ)) (QR (some (.int res))) 0 0 FN := by
  refine Met.ofW (cc := cX1_flippableBlocks) (maxL := 4) (ret := (some .int)) (by decide) rfl ?_
  intro p e s m args below meth c s₁ Bo hml hv
  obtain ⟨rfl, hC, hP⟩ := hv
  have hx := Bo.exec
  have hb := Bo.bytes
  have hr := Bo.returns
  have hts : ∀ w ∈ LA, w.before _ s = true := fun w hw => atoms_spec (ws := ws_ yX1_flippableBlocks cX1_flippableBlocks 4 (some .int)) Bo.pre w (List.mem_cons_of_mem _ hw)
  have hown : s.vm.findClass RX1 = some m.cls := findClass_of_methodNamed Bo.named
  have hlocks := Bo.notSynchronized
  have hK := hC.1
  have hl := lv_entry ([.ref (G 0)]) (n := 4) (Nat.le_of_ble_eq_true rfl)
  rw [lg_entry_eq]
  generalize (lg_sl ([.ref (G 0)]) ++ List.replicate (4 - (lg_sl ([.ref (G 0)])).length) Slot.unset).toArray = ls at hl ⊢
  have hl : lv_has ls 4 [(0, .ref (G 0))] := hl
  unfold f_X1_flippableBlocks at h
  refine lv_iconst (v := (0)) hx hb dX1_flippableBlocks_0 (by decide) ?_
  refine lv_istore_n (lv' := [(1, .int (0 : Int32)), (0, .ref (G 0))]) hx hb dX1_flippableBlocks_1 rfl hl (by decide) rfl (fun ls hl => ?_)
  refine lv_iconst (v := (0)) hx hb dX1_flippableBlocks_2 (by decide) ?_
  refine lv_istore_n (lv' := [(2, .int (0 : Int32)), (1, .int (0 : Int32)), (0, .ref (G 0))]) hx hb dX1_flippableBlocks_3 rfl hl (by decide) rfl (fun ls hl => ?_)
  obtain ⟨o71, eo71, h⟩ := obind h
  have hL4 : ∀ (n : Nat) (y1_4 : Int32) (y2_4 : Int32) (o71 : Int32), f_X1_flippableBlocks_L4 μ n y1_4 y2_4 = some o71 → (∀ (ls : Array Slot), lv_has ls 4 [(1, .int o71)] → W p l e (headSpec (ws_ yX1_flippableBlocks cX1_flippableBlocks 4 (some .int)) rm_X1_flippableBlocks).room s m ([.ref (G 0)] : List Value).toArray below meth c s.heap [] 0 0 (MQ below (QR (some (.int res))) ([.ref (G 0)] : List Value).toArray s 0 0 FN) (F0 m 90 ls [])) → ∀ (ls : Array Slot), lv_has ls 4 [(0, .ref (G 0)), (1, .int y1_4), (2, .int y2_4)] → W p l e (headSpec (ws_ yX1_flippableBlocks cX1_flippableBlocks 4 (some .int)) rm_X1_flippableBlocks).room s m ([.ref (G 0)] : List Value).toArray below meth c s.heap [] 0 0 (MQ below (QR (some (.int res))) ([.ref (G 0)] : List Value).toArray s 0 0 FN) (F0 m 4 ls []) := by
    intro n
    induction n with
    | zero => intro y1_4 y2_4 o71 h; exact absurd h (fun z => by cases z)
    | succ n ih =>
      intro y1_4 y2_4 o71 h hK4 ls hl
      replace h : f_X1_flippableBlocks_L4_b μ (f_X1_flippableBlocks_L4 μ n) y1_4 y2_4 = some o71 := h
      unfold f_X1_flippableBlocks_L4_b at h
      refine lv_iload_n hx hb dX1_flippableBlocks_4 rfl (lv_at hl 2 rfl) ?_
      refine lv_aload_n hx hb dX1_flippableBlocks_5 rfl (lv_at hl 0 rfl) ?_
      refine va_get hx hb hts inX1 hown hK hP 0 rfl rfl 1 (by decide) (hts _ qw123) (fun _ h9 => h9) rfl dX1_flippableBlocks_6 ?_
      refine lv_icmp_ge (tgt := 90) hx hb dX1_flippableBlocks_9 (by decide) (fun hc => ?_) (fun hc => ?_)
      · have h := iteT hc h
        obtain rfl := Option.some.inj h
        exact hK4 ls (lv_sub hl [1] rfl)
      · have h := iteF hc h
        refine lv_iconst (v := (0)) hx hb dX1_flippableBlocks_12 (by decide) ?_
        refine lv_istore_n (lv' := [(3, .int (0 : Int32)), (0, .ref (G 0)), (1, .int y1_4), (2, .int y2_4)]) hx hb dX1_flippableBlocks_13 rfl hl (by decide) rfl (fun ls hl => ?_)
        obtain ⟨o94, eo94, h⟩ := obind h
        have hL14 : ∀ (n : Nat) (y1_14 : Int32) (y3_14 : Int32) (o94 : Int32), f_X1_flippableBlocks_L14 μ y2_4 n y1_14 y3_14 = some o94 → (∀ (ls : Array Slot), lv_has ls 4 [(0, .ref (G 0)), (1, .int o94), (2, .int y2_4)] → W p l e (headSpec (ws_ yX1_flippableBlocks cX1_flippableBlocks 4 (some .int)) rm_X1_flippableBlocks).room s m ([.ref (G 0)] : List Value).toArray below meth c s.heap [] 0 0 (MQ below (QR (some (.int res))) ([.ref (G 0)] : List Value).toArray s 0 0 FN) (F0 m 84 ls [])) → ∀ (ls : Array Slot), lv_has ls 4 [(0, .ref (G 0)), (1, .int y1_14), (2, .int y2_4), (3, .int y3_14)] → W p l e (headSpec (ws_ yX1_flippableBlocks cX1_flippableBlocks 4 (some .int)) rm_X1_flippableBlocks).room s m ([.ref (G 0)] : List Value).toArray below meth c s.heap [] 0 0 (MQ below (QR (some (.int res))) ([.ref (G 0)] : List Value).toArray s 0 0 FN) (F0 m 14 ls []) := by
          intro n
          induction n with
          | zero => intro y1_14 y3_14 o94 h; exact absurd h (fun z => by cases z)
          | succ n ih =>
            intro y1_14 y3_14 o94 h hK14 ls hl
            replace h : f_X1_flippableBlocks_L14_b μ y2_4 (f_X1_flippableBlocks_L14 μ y2_4 n) y1_14 y3_14 = some o94 := h
            unfold f_X1_flippableBlocks_L14_b at h
            refine lv_iload_n hx hb dX1_flippableBlocks_14 rfl (lv_at hl 3 rfl) ?_
            refine lv_aload_n hx hb dX1_flippableBlocks_15 rfl (lv_at hl 0 rfl) ?_
            refine va_get hx hb hts inX1 hown hK hP 0 rfl rfl 0 (by decide) (hts _ qw121) (fun _ h9 => h9) rfl dX1_flippableBlocks_16 ?_
            refine lv_icmp_ge (tgt := 84) hx hb dX1_flippableBlocks_19 (by decide) (fun hc => ?_) (fun hc => ?_)
            · have h := iteT hc h
              obtain rfl := Option.some.inj h
              exact hK14 ls (lv_sub hl [0, 1, 2] rfl)
            · have h := iteF hc h
              refine lv_iload_n hx hb dX1_flippableBlocks_22 rfl (lv_at hl 1 rfl) ?_
              refine lv_aload_n hx hb dX1_flippableBlocks_23 rfl (lv_at hl 0 rfl) ?_
              refine lv_iload_n hx hb dX1_flippableBlocks_24 rfl (lv_at hl 3 rfl) ?_
              refine lv_iload_n hx hb dX1_flippableBlocks_25 rfl (lv_at hl 2 rfl) ?_
              refine lv_iconst (v := (1)) hx hb dX1_flippableBlocks_26 (by decide) ?_
              obtain ⟨r95, er95, h⟩ := obind h
              refine call_R (va_runV (As := [.int y3_14, .int y2_4, .int (1 : Int32)]) (rest := [.int y1_14]) ⟨hx, hb, hml, hown, hts⟩ (c_X1_hasFlipBlock l z0 D t G μ y3_14 y2_4 (1 : Int32) _ er95) (kV hts qw434 qw435 qw436 qw8 qw437 ok_X1_hasFlipBlock ⟨Nat.le_of_ble_eq_true rfl, Nat.le_of_ble_eq_true rfl⟩) ⟨PR.blind, va_recv hK hP (ci := 2) (q0 := 0) rfl rfl, fun U hU hW => ⟨rfl, by rw [hU]; exact hC.warm hW, by rw [hU]; exact hP⟩⟩ rfl rfl hl.1 rfl (lv_room (Nat.le_of_ble_eq_true rfl)) dX1_flippableBlocks_27 ⟨Nat.le_of_ble_eq_true rfl, Nat.le_of_ble_eq_true rfl⟩) ?_
              obtain ⟨o97, eo97, h⟩ := obind h
              have hJ48_o97 : ∀ ls : Array Slot, lv_has ls 4 [(0, .ref (G 0)), (2, .int y2_4), (3, .int y3_14)] → W p l e (headSpec (ws_ yX1_flippableBlocks cX1_flippableBlocks 4 (some .int)) rm_X1_flippableBlocks).room s m ([.ref (G 0)] : List Value).toArray below meth c s.heap [] 0 0 (MQ below (QR (some (.int res))) ([.ref (G 0)] : List Value).toArray s 0 0 FN) (F0 m 48 ls [.int o97, .int y1_14]) := by
                intro ls hl
                refine lv_iadd hx hb dX1_flippableBlocks_48 ?_
                obtain ⟨x99, ex99, h⟩ := jlet_some h
                refine topI ex99 ?_
                refine lv_istore_n (lv' := [(1, .int x99), (0, .ref (G 0)), (2, .int y2_4), (3, .int y3_14)]) hx hb dX1_flippableBlocks_49 rfl hl (by decide) rfl (fun ls hl => ?_)
                refine lv_iload_n hx hb dX1_flippableBlocks_50 rfl (lv_at hl 0 rfl) ?_
                refine lv_aload_n hx hb dX1_flippableBlocks_51 rfl (lv_at hl 1 rfl) ?_
                refine lv_iload_n hx hb dX1_flippableBlocks_52 rfl (lv_at hl 3 rfl) ?_
                refine lv_iload_n hx hb dX1_flippableBlocks_53 rfl (lv_at hl 2 rfl) ?_
                refine lv_iconst (v := (0)) hx hb dX1_flippableBlocks_54 (by decide) ?_
                obtain ⟨r100, er100, h⟩ := obind h
                refine call_R (va_runV (As := [.int y3_14, .int y2_4, .int (0 : Int32)]) (rest := [.int x99]) ⟨hx, hb, hml, hown, hts⟩ (c_X1_hasFlipBlock l z0 D t G μ y3_14 y2_4 (0 : Int32) _ er100) (kV hts qw434 qw435 qw436 qw8 qw437 ok_X1_hasFlipBlock ⟨Nat.le_of_ble_eq_true rfl, Nat.le_of_ble_eq_true rfl⟩) ⟨PR.blind, va_recv hK hP (ci := 2) (q0 := 0) rfl rfl, fun U hU hW => ⟨rfl, by rw [hU]; exact hC.warm hW, by rw [hU]; exact hP⟩⟩ rfl rfl hl.1 rfl (lv_room (Nat.le_of_ble_eq_true rfl)) dX1_flippableBlocks_55 ⟨Nat.le_of_ble_eq_true rfl, Nat.le_of_ble_eq_true rfl⟩) ?_
                obtain ⟨o102, eo102, h⟩ := obind h
                have hJ76_o102 : ∀ ls : Array Slot, lv_has ls 4 [(0, .ref (G 0)), (2, .int y2_4), (3, .int y3_14)] → W p l e (headSpec (ws_ yX1_flippableBlocks cX1_flippableBlocks 4 (some .int)) rm_X1_flippableBlocks).room s m ([.ref (G 0)] : List Value).toArray below meth c s.heap [] 0 0 (MQ below (QR (some (.int res))) ([.ref (G 0)] : List Value).toArray s 0 0 FN) (F0 m 76 ls [.int o102, .int x99]) := by
                  intro ls hl
                  refine lv_iadd hx hb dX1_flippableBlocks_76 ?_
                  obtain ⟨x104, ex104, h⟩ := jlet_some h
                  refine topI ex104 ?_
                  refine lv_istore_n (lv' := [(1, .int x104), (0, .ref (G 0)), (2, .int y2_4), (3, .int y3_14)]) hx hb dX1_flippableBlocks_77 rfl hl (by decide) rfl (fun ls hl => ?_)
                  obtain ⟨x105, ex105, h⟩ := jlet_some h
                  refine lv_iinc (v := x105) (lv' := [(3, .int x105), (1, .int x104), (0, .ref (G 0)), (2, .int y2_4)]) hx hb dX1_flippableBlocks_78 hl (k := 3) rfl (by rw [ex105]; rfl) (by decide) rfl (fun ls hl => ?_)
                  refine lv_goto (tgt := 14) hx hb dX1_flippableBlocks_81 (by decide) ?_
                  exact ih _ _ _ h hK14 ls (lv_sub hl [2, 1, 3, 0] rfl)
                have h := eo102
                clear eo102
                refine lv_if_eq (tgt := 75) hx hb dX1_flippableBlocks_58 (by decide) (fun hc => ?_) (fun hc => ?_)
                · have h := iteT hc h
                  refine lv_iconst (v := (0)) hx hb dX1_flippableBlocks_75 (by decide) ?_
                  obtain rfl := Option.some.inj h
                  exact hJ76_o102 ls (lv_sub hl [1, 2, 3] rfl)
                · have h := iteF hc h
                  refine lv_aload_n hx hb dX1_flippableBlocks_61 rfl (lv_at hl 1 rfl) ?_
                  refine lv_iload_n hx hb dX1_flippableBlocks_62 rfl (lv_at hl 3 rfl) ?_
                  refine lv_iload_n hx hb dX1_flippableBlocks_63 rfl (lv_at hl 2 rfl) ?_
                  refine lv_iconst (v := (0)) hx hb dX1_flippableBlocks_64 (by decide) ?_
                  obtain ⟨r103, er103, h⟩ := obind h
                  refine call_R (va_runV (As := [.int y3_14, .int y2_4, .int (0 : Int32)]) (rest := [.int x99]) ⟨hx, hb, hml, hown, hts⟩ (c_X1_isFlippable l z0 D t G μ y3_14 y2_4 (0 : Int32) _ er103) (kV hts qw438 qw439 qw440 qw8 qw441 ok_X1_isFlippable ⟨Nat.le_of_ble_eq_true rfl, Nat.le_of_ble_eq_true rfl⟩) ⟨PR.blind, va_recv hK hP (ci := 2) (q0 := 0) rfl rfl, fun U hU hW => ⟨rfl, by rw [hU]; exact hC.warm hW, by rw [hU]; exact hP⟩⟩ rfl rfl hl.1 rfl (lv_room (Nat.le_of_ble_eq_true rfl)) dX1_flippableBlocks_65 ⟨Nat.le_of_ble_eq_true rfl, Nat.le_of_ble_eq_true rfl⟩) ?_
                  refine lv_if_eq (tgt := 75) hx hb dX1_flippableBlocks_68 (by decide) (fun hc => ?_) (fun hc => ?_)
                  · have h := iteT hc h
                    refine lv_iconst (v := (0)) hx hb dX1_flippableBlocks_75 (by decide) ?_
                    obtain rfl := Option.some.inj h
                    exact hJ76_o102 ls (lv_sub hl [1, 2, 3] rfl)
                  · have h := iteF hc h
                    refine lv_iconst (v := (1)) hx hb dX1_flippableBlocks_71 (by decide) ?_
                    refine lv_goto (tgt := 76) hx hb dX1_flippableBlocks_72 (by decide) ?_
                    obtain rfl := Option.some.inj h
                    exact hJ76_o102 ls (lv_sub hl [1, 2, 3] rfl)
              have h := eo97
              clear eo97
              refine lv_if_eq (tgt := 47) hx hb dX1_flippableBlocks_30 (by decide) (fun hc => ?_) (fun hc => ?_)
              · have h := iteT hc h
                refine lv_iconst (v := (0)) hx hb dX1_flippableBlocks_47 (by decide) ?_
                obtain rfl := Option.some.inj h
                exact hJ48_o97 ls (lv_sub hl [0, 2, 3] rfl)
              · have h := iteF hc h
                refine lv_aload_n hx hb dX1_flippableBlocks_33 rfl (lv_at hl 0 rfl) ?_
                refine lv_iload_n hx hb dX1_flippableBlocks_34 rfl (lv_at hl 3 rfl) ?_
                refine lv_iload_n hx hb dX1_flippableBlocks_35 rfl (lv_at hl 2 rfl) ?_
                refine lv_iconst (v := (1)) hx hb dX1_flippableBlocks_36 (by decide) ?_
                obtain ⟨r98, er98, h⟩ := obind h
                refine call_R (va_runV (As := [.int y3_14, .int y2_4, .int (1 : Int32)]) (rest := [.int y1_14]) ⟨hx, hb, hml, hown, hts⟩ (c_X1_isFlippable l z0 D t G μ y3_14 y2_4 (1 : Int32) _ er98) (kV hts qw438 qw439 qw440 qw8 qw441 ok_X1_isFlippable ⟨Nat.le_of_ble_eq_true rfl, Nat.le_of_ble_eq_true rfl⟩) ⟨PR.blind, va_recv hK hP (ci := 2) (q0 := 0) rfl rfl, fun U hU hW => ⟨rfl, by rw [hU]; exact hC.warm hW, by rw [hU]; exact hP⟩⟩ rfl rfl hl.1 rfl (lv_room (Nat.le_of_ble_eq_true rfl)) dX1_flippableBlocks_37 ⟨Nat.le_of_ble_eq_true rfl, Nat.le_of_ble_eq_true rfl⟩) ?_
                refine lv_if_eq (tgt := 47) hx hb dX1_flippableBlocks_40 (by decide) (fun hc => ?_) (fun hc => ?_)
                · have h := iteT hc h
                  refine lv_iconst (v := (0)) hx hb dX1_flippableBlocks_47 (by decide) ?_
                  obtain rfl := Option.some.inj h
                  exact hJ48_o97 ls (lv_sub hl [0, 2, 3] rfl)
                · have h := iteF hc h
                  refine lv_iconst (v := (1)) hx hb dX1_flippableBlocks_43 (by decide) ?_
                  refine lv_goto (tgt := 48) hx hb dX1_flippableBlocks_44 (by decide) ?_
                  obtain rfl := Option.some.inj h
                  exact hJ48_o97 ls (lv_sub hl [0, 2, 3] rfl)
        refine hL14 _ _ _ _ eo94 (fun ls hl => ?_) ls (lv_sub hl [1, 2, 3, 0] rfl)
        obtain ⟨x106, ex106, h⟩ := jlet_some h
        refine lv_iinc (v := x106) (lv' := [(2, .int x106), (0, .ref (G 0)), (1, .int o94)]) hx hb dX1_flippableBlocks_84 hl (k := 2) rfl (by rw [ex106]; rfl) (by decide) rfl (fun ls hl => ?_)
        refine lv_goto (tgt := 4) hx hb dX1_flippableBlocks_87 (by decide) ?_
        exact ih _ _ _ h hK4 ls (lv_sub hl [1, 2, 0] rfl)
  refine hL4 _ _ _ _ eo71 (fun ls hl => ?_) ls (lv_sub hl [2, 1, 0] rfl)
  refine lv_iload_n hx hb dX1_flippableBlocks_90 rfl (lv_at hl 0 rfl) ?_
  obtain rfl := Option.some.inj h
  exact W.iret hx hb hr (fun t ht hW => ⟨rfl, ht⟩) (fun q hq => absurd hq List.not_mem_nil) dX1_flippableBlocks_91

abbrev rm_X4_mixed : Room := { frames := 0, cells := 0, slots := 0, locals := 0 }
theorem ok_X4_mixed : okY yX4_mixed 2 := ⟨by decide +kernel, by decide +kernel, by decide +kernel⟩
set_option maxHeartbeats 4000000 in
set_option maxRecDepth 100000 in
theorem c_X4_mixed (l : Launch) (z0 : Nat) (D : va_G) (t : Nat → ClassId) (a1 : Int64) (a2 : Int64) (res : Int64) (h : f_X4_mixed a1 a2 = some res) : Met l yX4_mixed (ws_ yX4_mixed cX4_mixed 4 (some .long)) rm_X4_mixed (PR z0 D t [.long a1, .long a2] []) (QR (some (.long res))) 0 0 FN := by
  refine Met.ofW (cc := cX4_mixed) (maxL := 4) (ret := (some .long)) (by decide) rfl ?_
  intro p e s m args below meth c s₁ Bo hml hv
  obtain ⟨rfl, hC, hP⟩ := hv
  have hx := Bo.exec
  have hb := Bo.bytes
  have hr := Bo.returns
  have hts : ∀ w ∈ LA, w.before _ s = true := fun w hw => atoms_spec (ws := ws_ yX4_mixed cX4_mixed 4 (some .long)) Bo.pre w (List.mem_cons_of_mem _ hw)
  have hown : s.vm.findClass RX4 = some m.cls := findClass_of_methodNamed Bo.named
  have hlocks := Bo.notSynchronized
  have hK := hC.1
  have hl := lv_entry ([.long a1, .long a2]) (n := 4) (Nat.le_of_ble_eq_true rfl)
  rw [lg_entry_eq]
  generalize (lg_sl ([.long a1, .long a2]) ++ List.replicate (4 - (lg_sl ([.long a1, .long a2])).length) Slot.unset).toArray = ls at hl ⊢
  have hl : lv_has ls 4 [(0, .long a1), (2, .long a2)] := hl
  unfold f_X4_mixed at h
  refine lv_ldc2 (v := (31)) hx hb hown (hts _ qw542) dX4_mixed_0 ?_
  refine lv_lload_n hx hb dX4_mixed_3 rfl (lv_at hl 0 rfl) ?_
  refine lv_lmul hx hb dX4_mixed_4 ?_
  refine lv_lload_n hx hb dX4_mixed_5 rfl (lv_at hl 1 rfl) ?_
  refine lv_ladd hx hb dX4_mixed_6 ?_
  obtain rfl := Option.some.inj h
  exact W.lret hx hb hr (fun t ht hW => ⟨rfl, ht⟩) (fun q hq => absurd hq List.not_mem_nil) dX4_mixed_7

abbrev rm_X4_rowMask : Room := { frames := 0, cells := 0, slots := 0, locals := 0 }
theorem ok_X4_rowMask : okY yX4_rowMask 2 := ⟨by decide +kernel, by decide +kernel, by decide +kernel⟩
set_option maxHeartbeats 4000000 in
set_option maxRecDepth 100000 in
theorem c_X4_rowMask (l : Launch) (z0 : Nat) (D : va_G) (t : Nat → ClassId) (a1 : Int64) (a2 : Int32) (res : Int32) (h : f_X4_rowMask a1 a2 = some res) : Met l yX4_rowMask (ws_ yX4_rowMask cX4_rowMask 3 (some .int)) rm_X4_rowMask (PR z0 D t [.long a1, .int a2] []) (QR (some (.int res))) 0 0 FN := by
  refine Met.ofW (cc := cX4_rowMask) (maxL := 3) (ret := (some .int)) (by decide) rfl ?_
  intro p e s m args below meth c s₁ Bo hml hv
  obtain ⟨rfl, hC, hP⟩ := hv
  have hx := Bo.exec
  have hb := Bo.bytes
  have hr := Bo.returns
  have hts : ∀ w ∈ LA, w.before _ s = true := fun w hw => atoms_spec (ws := ws_ yX4_rowMask cX4_rowMask 3 (some .int)) Bo.pre w (List.mem_cons_of_mem _ hw)
  have hown : s.vm.findClass RX4 = some m.cls := findClass_of_methodNamed Bo.named
  have hlocks := Bo.notSynchronized
  have hK := hC.1
  have hl := lv_entry ([.long a1, .int a2]) (n := 3) (Nat.le_of_ble_eq_true rfl)
  rw [lg_entry_eq]
  generalize (lg_sl ([.long a1, .int a2]) ++ List.replicate (3 - (lg_sl ([.long a1, .int a2])).length) Slot.unset).toArray = ls at hl ⊢
  have hl : lv_has ls 3 [(0, .long a1), (2, .int a2)] := hl
  unfold f_X4_rowMask at h
  refine lv_lload_n hx hb dX4_rowMask_0 rfl (lv_at hl 0 rfl) ?_
  refine lv_bipush (v := (8)) hx hb dX4_rowMask_1 (by decide) ?_
  refine lv_iload_n hx hb dX4_rowMask_3 rfl (lv_at hl 1 rfl) ?_
  refine lv_imul hx hb dX4_rowMask_4 ?_
  refine lv_lushr hx hb dX4_rowMask_5 rfl ?_
  refine lv_ldc2 (v := (255)) hx hb hown (hts _ qw574) dX4_rowMask_6 ?_
  refine lv_land hx hb dX4_rowMask_9 ?_
  refine lv_l2i hx hb dX4_rowMask_10 rfl ?_
  obtain rfl := Option.some.inj h
  exact W.iret hx hb hr (fun t ht hW => ⟨rfl, ht⟩) (fun q hq => absurd hq List.not_mem_nil) dX4_rowMask_11

abbrev rm_X1_kindOf : Room := { frames := 1, cells := 0, slots := 0, locals := 20 }
theorem ok_X1_kindOf : okY yX1_kindOf 1 := ⟨by decide +kernel, by decide +kernel, by decide +kernel⟩
set_option maxHeartbeats 4000000 in
set_option maxRecDepth 100000 in
theorem c_X1_kindOf (l : Launch) (z0 : Nat) (D : va_G) (t : Nat → ClassId) (G : Nat → Nat) (μ : GS) (a1 : Int64) (res : Int32) (h : f_X1_kindOf μ a1 = some res) : Met l yX1_kindOf (ws_ yX1_kindOf cX1_kindOf 3 (some .int)) rm_X1_kindOf (PR z0 D t [.ref (G 0), .long a1] (GW G t μ)) (QR (some (.int res))) 0 0 FN := by
  refine Met.ofW (cc := cX1_kindOf) (maxL := 3) (ret := (some .int)) (by decide) rfl ?_
  intro p e s m args below meth c s₁ Bo hml hv
  obtain ⟨rfl, hC, hP⟩ := hv
  have hx := Bo.exec
  have hb := Bo.bytes
  have hr := Bo.returns
  have hts : ∀ w ∈ LA, w.before _ s = true := fun w hw => atoms_spec (ws := ws_ yX1_kindOf cX1_kindOf 3 (some .int)) Bo.pre w (List.mem_cons_of_mem _ hw)
  have hown : s.vm.findClass RX1 = some m.cls := findClass_of_methodNamed Bo.named
  have hlocks := Bo.notSynchronized
  have hK := hC.1
  have hl := lv_entry ([.ref (G 0), .long a1]) (n := 3) (Nat.le_of_ble_eq_true rfl)
  rw [lg_entry_eq]
  generalize (lg_sl ([.ref (G 0), .long a1]) ++ List.replicate (3 - (lg_sl ([.ref (G 0), .long a1])).length) Slot.unset).toArray = ls at hl ⊢
  have hl : lv_has ls 3 [(0, .ref (G 0)), (1, .long a1)] := hl
  unfold f_X1_kindOf at h
  refine lv_lload_n hx hb dX1_kindOf_0 rfl (lv_at hl 1 rfl) ?_
  refine lv_aload_n hx hb dX1_kindOf_1 rfl (lv_at hl 0 rfl) ?_
  obtain ⟨r1, er1, h⟩ := obind h
  refine call_R (va_runV (As := []) (rest := [.long a1]) ⟨hx, hb, hml, hown, hts⟩ (c_X1_pondCell l z0 D t G μ _ er1) (kV hts qw250 qw251 qw252 qw8 qw253 ok_X1_pondCell ⟨Nat.le_of_ble_eq_true rfl, Nat.le_of_ble_eq_true rfl⟩) ⟨PR.blind, va_recv hK hP (ci := 2) (q0 := 0) rfl rfl, fun U hU hW => ⟨rfl, by rw [hU]; exact hC.warm hW, by rw [hU]; exact hP⟩⟩ rfl rfl hl.1 rfl (lv_room (Nat.le_of_ble_eq_true rfl)) dX1_kindOf_2 ⟨Nat.le_of_ble_eq_true rfl, Nat.le_of_ble_eq_true rfl⟩) ?_
  refine lv_land hx hb dX1_kindOf_5 ?_
  refine lv_lconst (v := (0)) hx hb dX1_kindOf_6 (by decide) ?_
  refine W.lcmp hx hb dX1_kindOf_7 ?_
  refine lv_if_eq (tgt := 13) hx hb dX1_kindOf_8 (by decide) (fun hc => ?_) (fun hc => ?_)
  · have h := iteT hc h
    refine lv_lload_n hx hb dX1_kindOf_13 rfl (lv_at hl 1 rfl) ?_
    refine lv_aload_n hx hb dX1_kindOf_14 rfl (lv_at hl 0 rfl) ?_
    refine va_get hx hb hts inX1 hown hK hP 0 rfl rfl 3 (by decide) (hts _ qw127) (fun _ h9 => h9) rfl dX1_kindOf_15 ?_
    refine lv_land hx hb dX1_kindOf_18 ?_
    refine lv_lconst (v := (0)) hx hb dX1_kindOf_19 (by decide) ?_
    refine W.lcmp hx hb dX1_kindOf_20 ?_
    refine lv_if_eq (tgt := 26) hx hb dX1_kindOf_21 (by decide) (fun hc => ?_) (fun hc => ?_)
    · have h := iteT hc h
      refine lv_lload_n hx hb dX1_kindOf_26 rfl (lv_at hl 1 rfl) ?_
      refine lv_aload_n hx hb dX1_kindOf_27 rfl (lv_at hl 0 rfl) ?_
      refine va_get hx hb hts inX1 hown hK hP 0 rfl rfl 4 (by decide) (hts _ qw129) (fun _ h9 => h9) rfl dX1_kindOf_28 ?_
      refine lv_land hx hb dX1_kindOf_31 ?_
      refine lv_lconst (v := (0)) hx hb dX1_kindOf_32 (by decide) ?_
      refine W.lcmp hx hb dX1_kindOf_33 ?_
      refine lv_if_eq (tgt := 41) hx hb dX1_kindOf_34 (by decide) (fun hc => ?_) (fun hc => ?_)
      · have h := iteT hc h
        refine lv_iconst (v := (0)) hx hb dX1_kindOf_41 (by decide) ?_
        obtain rfl := Option.some.inj h
        exact W.iret hx hb hr (fun t ht hW => ⟨rfl, ht⟩) (fun q hq => absurd hq List.not_mem_nil) dX1_kindOf_42
      · have h := iteF hc h
        refine lv_iconst (v := (3)) hx hb dX1_kindOf_37 (by decide) ?_
        refine lv_goto (tgt := 42) hx hb dX1_kindOf_38 (by decide) ?_
        obtain rfl := Option.some.inj h
        exact W.iret hx hb hr (fun t ht hW => ⟨rfl, ht⟩) (fun q hq => absurd hq List.not_mem_nil) dX1_kindOf_42
    · have h := iteF hc h
      refine lv_iconst (v := (2)) hx hb dX1_kindOf_24 (by decide) ?_
      obtain rfl := Option.some.inj h
      exact W.iret hx hb hr (fun t ht hW => ⟨rfl, ht⟩) (fun q hq => absurd hq List.not_mem_nil) dX1_kindOf_25
  · have h := iteF hc h
    refine lv_iconst (v := (1)) hx hb dX1_kindOf_11 (by decide) ?_
    obtain rfl := Option.some.inj h
    exact W.iret hx hb hr (fun t ht hW => ⟨rfl, ht⟩) (fun q hq => absurd hq List.not_mem_nil) dX1_kindOf_12

abbrev rm_X4_nameOf : Room := { frames := 0, cells := 0, slots := 0, locals := 0 }
theorem ok_X4_nameOf : okY yX4_nameOf 3 := ⟨by decide +kernel, by decide +kernel, by decide +kernel⟩
set_option maxHeartbeats 4000000 in
set_option maxRecDepth 100000 in
theorem c_X4_nameOf (l : Launch) (z0 : Nat) (D : va_G) (t : Nat → ClassId) (a1 : Int32) (a2 : Int32) (a3 : Int32) (res : Int32) (h : f_X4_nameOf a1 a2 a3 = some res) : Met l yX4_nameOf (ws_ yX4_nameOf cX4_nameOf 3 (some .int)) rm_X4_nameOf (PR z0 D t [.int a1, .int a2, .int a3] []) (QR (some (.int res))) 0 0 FN := by
  refine Met.ofW (cc := cX4_nameOf) (maxL := 3) (ret := (some .int)) (by decide) rfl ?_
  intro p e s m args below meth c s₁ Bo hml hv
  obtain ⟨rfl, hC, hP⟩ := hv
  have hx := Bo.exec
  have hb := Bo.bytes
  have hr := Bo.returns
  have hts : ∀ w ∈ LA, w.before _ s = true := fun w hw => atoms_spec (ws := ws_ yX4_nameOf cX4_nameOf 3 (some .int)) Bo.pre w (List.mem_cons_of_mem _ hw)
  have hown : s.vm.findClass RX4 = some m.cls := findClass_of_methodNamed Bo.named
  have hlocks := Bo.notSynchronized
  have hK := hC.1
  have hl := lv_entry ([.int a1, .int a2, .int a3]) (n := 3) (Nat.le_of_ble_eq_true rfl)
  rw [lg_entry_eq]
  generalize (lg_sl ([.int a1, .int a2, .int a3]) ++ List.replicate (3 - (lg_sl ([.int a1, .int a2, .int a3])).length) Slot.unset).toArray = ls at hl ⊢
  have hl : lv_has ls 3 [(0, .int a1), (1, .int a2), (2, .int a3)] := hl
  unfold f_X4_nameOf at h
  refine lv_iload_n hx hb dX4_nameOf_0 rfl (lv_at hl 0 rfl) ?_
  refine lv_bipush (v := (10)) hx hb dX4_nameOf_1 (by decide) ?_
  refine lv_iload_n hx hb dX4_nameOf_3 rfl (lv_at hl 1 rfl) ?_
  refine lv_imul hx hb dX4_nameOf_4 ?_
  refine lv_iadd hx hb dX4_nameOf_5 ?_
  refine lv_bipush (v := (100)) hx hb dX4_nameOf_6 (by decide) ?_
  refine lv_iload_n hx hb dX4_nameOf_8 rfl (lv_at hl 2 rfl) ?_
  refine lv_imul hx hb dX4_nameOf_9 ?_
  refine lv_iadd hx hb dX4_nameOf_10 ?_
  obtain rfl := Option.some.inj h
  exact W.iret hx hb hr (fun t ht hW => ⟨rfl, ht⟩) (fun q hq => absurd hq List.not_mem_nil) dX4_nameOf_11

abbrev rm_X1_firstCover : Room := { frames := 3, cells := 0, slots := 0, locals := 90 }
theorem ok_X1_firstCover : okY yX1_firstCover 1 := ⟨by decide +kernel, by decide +kernel, by decide +kernel⟩
set_option maxHeartbeats 4000000 in
set_option maxRecDepth 100000 in
theorem c_X1_firstCover (l : Launch) (z0 : Nat) (D : va_G) (t : Nat → ClassId) (G : Nat → Nat) (μ : GS) (a1 : Int32) (res : Int32) (h : f_X1_firstCover μ a1 = some res) : Met l yX1_firstCover (ws_ yX1_firstCover cX1_firstCover 3 (some .int)) rm_X1_firstCover (PR z0 D t [.ref (G 0), .int a1] (GW G t μ)) (QR (some (.int res))) 0 0 FN := by
  refine Met.ofW (cc := cX1_firstCover) (maxL := 3) (ret := (some .int)) (by decide) rfl ?_
  intro p e s m args below meth c s₁ Bo hml hv
  obtain ⟨rfl, hC, hP⟩ := hv
  have hx := Bo.exec
  have hb := Bo.bytes
  have hr := Bo.returns
  have hts : ∀ w ∈ LA, w.before _ s = true := fun w hw => atoms_spec (ws := ws_ yX1_firstCover cX1_firstCover 3 (some .int)) Bo.pre w (List.mem_cons_of_mem _ hw)
  have hown : s.vm.findClass RX1 = some m.cls := findClass_of_methodNamed Bo.named
  have hlocks := Bo.notSynchronized
  have hK := hC.1
  have hl := lv_entry ([.ref (G 0), .int a1]) (n := 3) (Nat.le_of_ble_eq_true rfl)
  rw [lg_entry_eq]
  generalize (lg_sl ([.ref (G 0), .int a1]) ++ List.replicate (3 - (lg_sl ([.ref (G 0), .int a1])).length) Slot.unset).toArray = ls at hl ⊢
  have hl : lv_has ls 3 [(0, .ref (G 0)), (1, .int a1)] := hl
  unfold f_X1_firstCover at h
  refine lv_iconst (v := (0)) hx hb dX1_firstCover_0 (by decide) ?_
  refine lv_istore_n (lv' := [(2, .int (0 : Int32)), (0, .ref (G 0)), (1, .int a1)]) hx hb dX1_firstCover_1 rfl hl (by decide) rfl (fun ls hl => ?_)
  obtain ⟨o11, eo11, h⟩ := obind h
  have hL2 : ∀ (n : Nat) (y2_2 : Int32) (o11 : (Unit) ⊕ (Int32)), f_X1_firstCover_L2 a1 μ n y2_2 = some o11 → (∀ o11l, o11 = .inl o11l → ∀ (ls : Array Slot), lv_has ls 3 [] → W p l e (headSpec (ws_ yX1_firstCover cX1_firstCover 3 (some .int)) rm_X1_firstCover).room s m ([.ref (G 0), .int a1] : List Value).toArray below meth c s.heap [] 0 0 (MQ below (QR (some (.int res))) ([.ref (G 0), .int a1] : List Value).toArray s 0 0 FN) (F0 m 40 ls [])) → (∀ r9, o11 = .inr r9 → r9 = res) → ∀ (ls : Array Slot), lv_has ls 3 [(0, .ref (G 0)), (1, .int a1), (2, .int y2_2)] → W p l e (headSpec (ws_ yX1_firstCover cX1_firstCover 3 (some .int)) rm_X1_firstCover).room s m ([.ref (G 0), .int a1] : List Value).toArray below meth c s.heap [] 0 0 (MQ below (QR (some (.int res))) ([.ref (G 0), .int a1] : List Value).toArray s 0 0 FN) (F0 m 2 ls []) := by
    intro n
    induction n with
    | zero => intro y2_2 o11 h; exact absurd h (fun z => by cases z)
    | succ n ih =>
      intro y2_2 o11 h hK2 hR2 ls hl
      replace h : f_X1_firstCover_L2_b a1 μ (f_X1_firstCover_L2 a1 μ n) y2_2 = some o11 := h
      unfold f_X1_firstCover_L2_b at h
      refine lv_iload_n hx hb dX1_firstCover_2 rfl (lv_at hl 2 rfl) ?_
      refine lv_bipush (v := (16)) hx hb dX1_firstCover_3 (by decide) ?_
      refine lv_icmp_ge (tgt := 40) hx hb dX1_firstCover_5 (by decide) (fun hc => ?_) (fun hc => ?_)
      · have h := iteT hc h
        obtain rfl := Option.some.inj h
        exact hK2 _ rfl ls (lv_sub hl [] rfl)
      · have h := iteF hc h
        refine lv_aload_n hx hb dX1_firstCover_8 rfl (lv_at hl 0 rfl) ?_
        refine lv_iload_n hx hb dX1_firstCover_9 rfl (lv_at hl 1 rfl) ?_
        refine lv_iload_n hx hb dX1_firstCover_10 rfl (lv_at hl 2 rfl) ?_
        obtain ⟨r12, er12, h⟩ := obind h
        refine call_R (va_runV (As := [.int a1, .int y2_2]) (rest := []) ⟨hx, hb, hml, hown, hts⟩ (c_X1_couldCover l z0 D t G μ a1 y2_2 _ er12) (kV hts qw348 qw350 qs8 qw8 qw351 ok_X1_couldCover ⟨Nat.le_of_ble_eq_true rfl, Nat.le_of_ble_eq_true rfl⟩) ⟨PR.blind, va_recv hK hP (ci := 2) (q0 := 0) rfl rfl, fun U hU hW => ⟨rfl, by rw [hU]; exact hC.warm hW, by rw [hU]; exact hP⟩⟩ rfl rfl hl.1 rfl (lv_room (Nat.le_of_ble_eq_true rfl)) dX1_firstCover_11 ⟨Nat.le_of_ble_eq_true rfl, Nat.le_of_ble_eq_true rfl⟩) ?_
        refine lv_if_eq (tgt := 34) hx hb dX1_firstCover_14 (by decide) (fun hc => ?_) (fun hc => ?_)
        · have h := iteT hc h
          obtain ⟨x13, ex13, h⟩ := jlet_some h
          refine lv_iinc (v := x13) (lv' := [(2, .int x13), (0, .ref (G 0)), (1, .int a1)]) hx hb dX1_firstCover_34 hl (k := 2) rfl (by rw [ex13]; rfl) (by decide) rfl (fun ls hl => ?_)
          refine lv_goto (tgt := 2) hx hb dX1_firstCover_37 (by decide) ?_
          exact ih _ _ h hK2 hR2 ls (lv_sub hl [1, 2, 0] rfl)
        · have h := iteF hc h
          refine lv_iload_n hx hb dX1_firstCover_17 rfl (lv_at hl 1 rfl) ?_
          refine lv_iload_n hx hb dX1_firstCover_18 rfl (lv_at hl 2 rfl) ?_
          obtain ⟨r14, er14, h⟩ := obind h
          refine call_R (va_runS (As := [.int a1, .int y2_2]) (rest := []) ⟨hx, hb, hml, hown, hts⟩ (c_X1_coverX l z0 D t a1 y2_2 _ er14) (kS hts qw352 qw353 qw8 qw354 ok_X1_coverX ⟨Nat.le_of_ble_eq_true rfl, Nat.le_of_ble_eq_true rfl⟩) ⟨PR.blind, fun U hU hW => ⟨rfl, by rw [hU]; exact hC.warm hW, by rw [hU]; exact va_P_nil⟩⟩ rfl rfl hl.1 rfl (lv_room (Nat.le_of_ble_eq_true rfl)) dX1_firstCover_19 ⟨Nat.le_of_ble_eq_true rfl, Nat.le_of_ble_eq_true rfl⟩) ?_
          refine lv_iload_n hx hb dX1_firstCover_22 rfl (lv_at hl 1 rfl) ?_
          refine lv_iload_n hx hb dX1_firstCover_23 rfl (lv_at hl 2 rfl) ?_
          obtain ⟨r15, er15, h⟩ := obind h
          refine call_R (va_runS (As := [.int a1, .int y2_2]) (rest := [.int r14]) ⟨hx, hb, hml, hown, hts⟩ (c_X1_coverY l z0 D t a1 y2_2 _ er15) (kS hts qw355 qw356 qw8 qw357 ok_X1_coverY ⟨Nat.le_of_ble_eq_true rfl, Nat.le_of_ble_eq_true rfl⟩) ⟨PR.blind, fun U hU hW => ⟨rfl, by rw [hU]; exact hC.warm hW, by rw [hU]; exact va_P_nil⟩⟩ rfl rfl hl.1 rfl (lv_room (Nat.le_of_ble_eq_true rfl)) dX1_firstCover_24 ⟨Nat.le_of_ble_eq_true rfl, Nat.le_of_ble_eq_true rfl⟩) ?_
          refine lv_iload_n hx hb dX1_firstCover_27 rfl (lv_at hl 2 rfl) ?_
          refine lv_iconst (v := (4)) hx hb dX1_firstCover_28 (by decide) ?_
          refine lv_idiv hx hb dX1_firstCover_29 (by decide) ?_
          obtain ⟨r16, er16, h⟩ := obind h
          refine call_R (va_runSN (As := [.int r14, .int r15, .int (y2_2 / (4 : Int32))]) (rest := []) ⟨hx, hb, hml, hown, hts⟩ (c_X4_nameOf l z0 D t r14 r15 (y2_2 / (4 : Int32)) _ er16) ⟨kN hts (hC.2.1 _ qw630) qw1 qw632 ok_X4_nameOf ⟨Nat.le_of_ble_eq_true rfl, Nat.le_of_ble_eq_true rfl⟩, hts _ qw631, trivial⟩ ⟨PR.blind, fun U hU hW => ⟨rfl, by rw [hU]; exact hC.warm hW, by rw [hU]; exact va_P_nil⟩⟩ rfl rfl hl.1 rfl (lv_room (Nat.le_of_ble_eq_true rfl)) dX1_firstCover_30 ⟨Nat.le_of_ble_eq_true rfl, Nat.le_of_ble_eq_true rfl⟩) ?_
          have e9 := hR2 _ (Option.some.inj h).symm
          subst e9
          exact W.iret hx hb hr (fun t ht hW => ⟨rfl, ht⟩) (fun q hq => absurd hq List.not_mem_nil) dX1_firstCover_33
  refine hL2 _ _ _ eo11 (fun o11l eq9 ls hl => ?_) (fun r9 eq9 => ?_) ls (lv_sub hl [1, 2, 0] rfl)
  · subst eq9
    replace h := sumL h
    refine lv_iconst (v := (-1)) hx hb dX1_firstCover_40 (by decide) ?_
    obtain rfl := Option.some.inj h
    exact W.iret hx hb hr (fun t ht hW => ⟨rfl, ht⟩) (fun q hq => absurd hq List.not_mem_nil) dX1_firstCover_41
  · subst eq9
    replace h := sumR h
    exact Option.some.inj h

abbrev rm_X4_shareBits : Room := { frames := 0, cells := 0, slots := 0, locals := 0 }
theorem ok_X4_shareBits : okY yX4_shareBits 1 := ⟨by decide +kernel, by decide +kernel, by decide +kernel⟩
set_option maxHeartbeats 4000000 in
set_option maxRecDepth 100000 in
theorem c_X4_shareBits (l : Launch) (z0 : Nat) (D : va_G) (t : Nat → ClassId) (a1 : UInt64) (res : Int64) (h : f_X4_shareBits a1 = some res) : Met l yX4_shareBits (ws_ yX4_shareBits cX4_shareBits 7 (some .long)) rm_X4_shareBits (PR z0 D t [.double a1] []) (QR (some (.long res))) 0 0 FN := by
  refine Met.ofW (cc := cX4_shareBits) (maxL := 7) (ret := (some .long)) (by decide) rfl ?_
  intro p e s m args below meth c s₁ Bo hml hv
  obtain ⟨rfl, hC, hP⟩ := hv
  have hx := Bo.exec
  have hb := Bo.bytes
  have hr := Bo.returns
  have hts : ∀ w ∈ LA, w.before _ s = true := fun w hw => atoms_spec (ws := ws_ yX4_shareBits cX4_shareBits 7 (some .long)) Bo.pre w (List.mem_cons_of_mem _ hw)
  have hown : s.vm.findClass RX4 = some m.cls := findClass_of_methodNamed Bo.named
  have hlocks := Bo.notSynchronized
  have hK := hC.1
  have hl := lv_entry ([.double a1]) (n := 7) (Nat.le_of_ble_eq_true rfl)
  rw [lg_entry_eq]
  generalize (lg_sl ([.double a1]) ++ List.replicate (7 - (lg_sl ([.double a1])).length) Slot.unset).toArray = ls at hl ⊢
  have hl : lv_has ls 7 [(0, .double a1)] := hl
  unfold f_X4_shareBits at h
  refine lv_dload_n hx hb dX4_shareBits_0 rfl (lv_at hl 0 rfl) ?_
  refine lv_dconst0 hx hb dX4_shareBits_1 ?_
  refine lv_dcmp hx hb dX4_shareBits_2 ?_
  refine lv_if_gt (tgt := 8) hx hb dX4_shareBits_3 (by decide) (fun hc => ?_) (fun hc => ?_)
  · have h := iteT hc h
    refine lv_dload_n hx hb dX4_shareBits_8 rfl (lv_at hl 0 rfl) ?_
    refine lv_dstore_n (lv' := [(2, .double a1), (0, .double a1)]) hx hb dX4_shareBits_9 rfl hl (by decide) rfl (fun ls hl => ?_)
    refine lv_ldc2 (v := (1023)) hx hb hown (hts _ qw638) dX4_shareBits_10 ?_
    refine lv_lstore (lv' := [(4, .long (1023 : Int64)), (2, .double a1), (0, .double a1)]) hx hb dX4_shareBits_13 hl (by decide) rfl (fun ls hl => ?_)
    refine lv_iconst (v := (0)) hx hb dX4_shareBits_15 (by decide) ?_
    refine lv_istore (lv' := [(6, .int (0 : Int32)), (4, .long (1023 : Int64)), (2, .double a1), (0, .double a1)]) hx hb dX4_shareBits_16 hl (by decide) rfl (fun ls hl => ?_)
    obtain ⟨o7, eo7, h⟩ := obind h
    have hL18 : ∀ (n : Nat) (y2_18 : UInt64) (y4_18 : Int64) (y6_18 : Int32) (o7 : UInt64 × Int64), f_X4_shareBits_L18 n y2_18 y4_18 y6_18 = some o7 → (∀ (ls : Array Slot), lv_has ls 7 [(2, .double o7.1), (4, .long o7.2)] → W p l e (headSpec (ws_ yX4_shareBits cX4_shareBits 7 (some .long)) rm_X4_shareBits).room s m ([.double a1] : List Value).toArray below meth c s.heap [] 0 0 (MQ below (QR (some (.long res))) ([.double a1] : List Value).toArray s 0 0 FN) (F0 m 50 ls [])) → ∀ (ls : Array Slot), lv_has ls 7 [(2, .double y2_18), (4, .long y4_18), (6, .int y6_18)] → W p l e (headSpec (ws_ yX4_shareBits cX4_shareBits 7 (some .long)) rm_X4_shareBits).room s m ([.double a1] : List Value).toArray below meth c s.heap [] 0 0 (MQ below (QR (some (.long res))) ([.double a1] : List Value).toArray s 0 0 FN) (F0 m 18 ls []) := by
      intro n
      induction n with
      | zero => intro y2_18 y4_18 y6_18 o7 h; exact absurd h (fun z => by cases z)
      | succ n ih =>
        intro y2_18 y4_18 y6_18 o7 h hK18 ls hl
        replace h : f_X4_shareBits_L18_b (f_X4_shareBits_L18 n) y2_18 y4_18 y6_18 = some o7 := h
        unfold f_X4_shareBits_L18_b at h
        refine lv_iload hx hb dX4_shareBits_18 (lv_at hl 2 rfl) ?_
        refine lv_sipush (v := (1022)) hx hb dX4_shareBits_20 (by decide) ?_
        refine lv_icmp_ge (tgt := 50) hx hb dX4_shareBits_23 (by decide) (fun hc => ?_) (fun hc => ?_)
        · have h := iteT hc h
          obtain rfl := Option.some.inj h
          exact hK18 ls (lv_sub hl [0, 1] rfl)
        · have h := iteF hc h
          refine lv_dload_n hx hb dX4_shareBits_26 rfl (lv_at hl 0 rfl) ?_
          refine lv_dconst1 hx hb dX4_shareBits_27 ?_
          refine lv_dcmp hx hb dX4_shareBits_28 ?_
          refine lv_if_ge (tgt := 50) hx hb dX4_shareBits_29 (by decide) (fun hc => ?_) (fun hc => ?_)
          · have h := iteT hc h
            obtain rfl := Option.some.inj h
            exact hK18 ls (lv_sub hl [0, 1] rfl)
          · have h := iteF hc h
            refine lv_dload_n hx hb dX4_shareBits_32 rfl (lv_at hl 0 rfl) ?_
            refine lv_ldc2d (v := (4611686018427387904)) hx hb hown (hts _ qw639) dX4_shareBits_33 ?_
            obtain ⟨d8, ed8, h⟩ := obind h
            refine lv_dmul hx hb dX4_shareBits_36 (dfin_some ed8).2 ?_
            refine topD (dfin_some ed8).1 ?_
            refine lv_dstore_n (lv' := [(2, .double d8), (4, .long y4_18), (6, .int y6_18)]) hx hb dX4_shareBits_37 rfl hl (by decide) rfl (fun ls hl => ?_)
            refine lv_lload hx hb dX4_shareBits_38 (lv_at hl 1 rfl) ?_
            refine lv_lconst (v := (1)) hx hb dX4_shareBits_40 (by decide) ?_
            refine lv_lsub hx hb dX4_shareBits_41 ?_
            obtain ⟨x9, ex9, h⟩ := jlet_some h
            refine topJ ex9 ?_
            refine lv_lstore (lv' := [(4, .long x9), (2, .double d8), (6, .int y6_18)]) hx hb dX4_shareBits_42 hl (by decide) rfl (fun ls hl => ?_)
            obtain ⟨x10, ex10, h⟩ := jlet_some h
            refine lv_iinc (v := x10) (lv' := [(6, .int x10), (4, .long x9), (2, .double d8)]) hx hb dX4_shareBits_44 hl (k := 2) rfl (by rw [ex10]; rfl) (by decide) rfl (fun ls hl => ?_)
            refine lv_goto (tgt := 18) hx hb dX4_shareBits_47 (by decide) ?_
            exact ih _ _ _ _ h hK18 ls (lv_sub hl [2, 1, 0] rfl)
    refine hL18 _ _ _ _ _ eo7 (fun ls hl => ?_) ls (lv_sub hl [2, 1, 0] rfl)
    refine lv_lload hx hb dX4_shareBits_50 (lv_at hl 1 rfl) ?_
    refine lv_bipush (v := (52)) hx hb dX4_shareBits_52 (by decide) ?_
    refine lv_lshl hx hb dX4_shareBits_54 rfl ?_
    refine lv_dload_n hx hb dX4_shareBits_55 rfl (lv_at hl 0 rfl) ?_
    refine lv_dconst1 hx hb dX4_shareBits_56 ?_
    obtain ⟨d11, ed11, h⟩ := obind h
    refine lv_dsub hx hb dX4_shareBits_57 (dfin_some ed11).2 ?_
    refine topD (dfin_some ed11).1 ?_
    refine lv_ldc2d (v := (4841369599423283200)) hx hb hown (hts _ qw640) dX4_shareBits_58 ?_
    obtain ⟨d12, ed12, h⟩ := obind h
    refine lv_dmul hx hb dX4_shareBits_61 (dfin_some ed12).2 ?_
    refine topD (dfin_some ed12).1 ?_
    refine lv_d2l hx hb dX4_shareBits_62 ?_
    refine lv_ladd hx hb dX4_shareBits_63 ?_
    obtain rfl := Option.some.inj h
    exact W.lret hx hb hr (fun t ht hW => ⟨rfl, ht⟩) (fun q hq => absurd hq List.not_mem_nil) dX4_shareBits_64
  · have h := iteF hc h
    refine lv_lconst (v := (0)) hx hb dX4_shareBits_6 (by decide) ?_
    obtain rfl := Option.some.inj h
    exact W.lret hx hb hr (fun t ht hW => ⟨rfl, ht⟩) (fun q hq => absurd hq List.not_mem_nil) dX4_shareBits_7

abbrev rm_X4_isSide : Room := { frames := 0, cells := 0, slots := 0, locals := 0 }
theorem ok_X4_isSide : okY yX4_isSide 1 := ⟨by decide +kernel, by decide +kernel, by decide +kernel⟩
set_option maxHeartbeats 4000000 in
set_option maxRecDepth 100000 in
theorem c_X4_isSide (l : Launch) (z0 : Nat) (D : va_G) (t : Nat → ClassId) (a1 : Int32) (res : Int32) (h : f_X4_isSide a1 = some res) : Met l yX4_isSide (ws_ yX4_isSide cX4_isSide 1 (some .boolean)) rm_X4_isSide (PR z0 D t [.int a1] []) (QR (some (.int res))) 0 0 FN := by
  refine Met.ofW (cc := cX4_isSide) (maxL := 1) (ret := (some .boolean)) (by decide) rfl ?_
  intro p e s m args below meth c s₁ Bo hml hv
  obtain ⟨rfl, hC, hP⟩ := hv
  have hx := Bo.exec
  have hb := Bo.bytes
  have hr := Bo.returns
  have hts : ∀ w ∈ LA, w.before _ s = true := fun w hw => atoms_spec (ws := ws_ yX4_isSide cX4_isSide 1 (some .boolean)) Bo.pre w (List.mem_cons_of_mem _ hw)
  have hown : s.vm.findClass RX4 = some m.cls := findClass_of_methodNamed Bo.named
  have hlocks := Bo.notSynchronized
  have hK := hC.1
  have hl := lv_entry ([.int a1]) (n := 1) (Nat.le_of_ble_eq_true rfl)
  rw [lg_entry_eq]
  generalize (lg_sl ([.int a1]) ++ List.replicate (1 - (lg_sl ([.int a1])).length) Slot.unset).toArray = ls at hl ⊢
  have hl : lv_has ls 1 [(0, .int a1)] := hl
  unfold f_X4_isSide at h
  refine lv_iload_n hx hb dX4_isSide_0 rfl (lv_at hl 0 rfl) ?_
  refine lv_iconst (v := (2)) hx hb dX4_isSide_1 (by decide) ?_
  refine lv_icmp_lt (tgt := 15) hx hb dX4_isSide_2 (by decide) (fun hc => ?_) (fun hc => ?_)
  · have h := iteT hc h
    refine lv_iconst (v := (0)) hx hb dX4_isSide_15 (by decide) ?_
    obtain rfl := Option.some.inj h
    exact W.zret hx hb hr rfl (fun t ht hW => ⟨rfl, ht⟩) (fun q hq => absurd hq List.not_mem_nil) dX4_isSide_16
  · have h := iteF hc h
    refine lv_iload_n hx hb dX4_isSide_5 rfl (lv_at hl 0 rfl) ?_
    refine lv_bipush (v := (8)) hx hb dX4_isSide_6 (by decide) ?_
    refine lv_icmp_gt (tgt := 15) hx hb dX4_isSide_8 (by decide) (fun hc => ?_) (fun hc => ?_)
    · have h := iteT hc h
      refine lv_iconst (v := (0)) hx hb dX4_isSide_15 (by decide) ?_
      obtain rfl := Option.some.inj h
      exact W.zret hx hb hr rfl (fun t ht hW => ⟨rfl, ht⟩) (fun q hq => absurd hq List.not_mem_nil) dX4_isSide_16
    · have h := iteF hc h
      refine lv_iconst (v := (1)) hx hb dX4_isSide_11 (by decide) ?_
      refine lv_goto (tgt := 16) hx hb dX4_isSide_12 (by decide) ?_
      obtain rfl := Option.some.inj h
      exact W.zret hx hb hr rfl (fun t ht hW => ⟨rfl, ht⟩) (fun q hq => absurd hq List.not_mem_nil) dX4_isSide_16

abbrev rm_X1_layOut : Room := { frames := 0, cells := 0, slots := 0, locals := 0 }
theorem ok_X1_layOut : okY yX1_layOut 4 := ⟨by decide +kernel, by decide +kernel, by decide +kernel⟩
set_option maxHeartbeats 4000000 in
set_option maxRecDepth 100000 in
theorem c_X1_layOut (l : Launch) (z0 : Nat) (D : va_G) (t : Nat → ClassId) (G : Nat → Nat) (μ : GS) (a1 : Int32) (a2 : Int32) (a3 : Int32) (a4 : Int64) (res : (Int32) × (Int32) × (Int32) × (Int64) × (Int64) × (Int32)) (sz : Nat) (h : f_X1_layOut μ a1 a2 a3 a4 = some res) : Met l yX1_layOut (ws_ yX1_layOut cX1_layOut 6 none) rm_X1_layOut (PM z0 D t [.ref (G 0), .int a1, .int a2, .int a3, .long a4] (GW G t μ) (GL G) sz) (QM none D (GW G t (g_tc' (g_paved' (g_walls' (g_pond' (g_high' (g_wide' μ res.1) res.2.1) res.2.2.1) res.2.2.2.1) res.2.2.2.2.1) res.2.2.2.2.2)) (GL G) sz) 0 0 (OA (GL G) sz) := by
  refine Met.ofW (cc := cX1_layOut) (maxL := 6) (ret := none) (by decide) rfl ?_
  intro p e s m args below meth c s₁ Bo hml hv
  obtain ⟨rfl, hC, hsz, hP, hD, hZ⟩ := hv
  have hx := Bo.exec
  have hb := Bo.bytes
  have hr := Bo.returns
  have hts : ∀ w ∈ LA, w.before _ s = true := fun w hw => atoms_spec (ws := ws_ yX1_layOut cX1_layOut 6 none) Bo.pre w (List.mem_cons_of_mem _ hw)
  have hown : s.vm.findClass RX1 = some m.cls := findClass_of_methodNamed Bo.named
  have hlocks := Bo.notSynchronized
  have hK := hC.1
  subst hsz
  have hl := lv_entry ([.ref (G 0), .int a1, .int a2, .int a3, .long a4]) (n := 6) (Nat.le_of_ble_eq_true rfl)
  rw [lg_entry_eq]
  generalize (lg_sl ([.ref (G 0), .int a1, .int a2, .int a3, .long a4]) ++ List.replicate (6 - (lg_sl ([.ref (G 0), .int a1, .int a2, .int a3, .long a4])).length) Slot.unset).toArray = ls at hl ⊢
  have hl : lv_has ls 6 [(0, .ref (G 0)), (1, .int a1), (2, .int a2), (3, .int a3), (4, .long a4)] := hl
  suffices K9 : ∀ (H : Heap) (locs : List Loc), va_P D vwCl (GW G t μ) H → va_S (OA (GL G) s.heap.size) s.heap H locs → W p l e (headSpec (ws_ yX1_layOut cX1_layOut 6 none) rm_X1_layOut).room s m ([.ref (G 0), .int a1, .int a2, .int a3, .long a4] : List Value).toArray below meth c H locs 0 0 (MQ below (QM none D (GW G t (g_tc' (g_paved' (g_walls' (g_pond' (g_high' (g_wide' μ res.1) res.2.1) res.2.2.1) res.2.2.2.1) res.2.2.2.2.1) res.2.2.2.2.2)) (GL G) s.heap.size) ([.ref (G 0), .int a1, .int a2, .int a3, .long a4] : List Value).toArray s 0 0 (OA (GL G) s.heap.size)) (F0 m 0 ls []) from K9 s.heap [] hP va_S.rf
  intro H locs hP hS
  have hSz : s.heap.size ≤ H.size := hS.1
  unfold f_X1_layOut at h
  refine lv_aload_n hx hb dX1_layOut_0 rfl (lv_at hl 0 rfl) ?_
  refine lv_iload_n hx hb dX1_layOut_1 rfl (lv_at hl 1 rfl) ?_
  refine va_put (D := D) (ci := 2) (v := .int a1) (ty := .int) hx hb hts inX1 tyX1 tyX1_ok nmX1 hown hK hP hD hS 0 rfl rfl 0 (by decide) (hts _ qw121) (fun _ h9 => h9) rfl (by decide +kernel) rfl rfl (Nat.le_of_ble_eq_true rfl) dX1_layOut_2 (fun H locs hP hD hS => ?_)
  have hP : va_P D vwCl (GW G t (g_wide' μ a1)) H := hP
  have hD : va_D (OA (GL G) s.heap.size) (GW G t (g_wide' μ a1)) := hD
  have hSz : s.heap.size ≤ H.size := hS.1
  refine lv_aload_n hx hb dX1_layOut_5 rfl (lv_at hl 0 rfl) ?_
  refine lv_iload_n hx hb dX1_layOut_6 rfl (lv_at hl 2 rfl) ?_
  refine va_put (D := D) (ci := 2) (v := .int a2) (ty := .int) hx hb hts inX1 tyX1 tyX1_ok nmX1 hown hK hP hD hS 0 rfl rfl 1 (by decide) (hts _ qw123) (fun _ h9 => h9) rfl (by decide +kernel) rfl rfl (Nat.le_of_ble_eq_true rfl) dX1_layOut_7 (fun H locs hP hD hS => ?_)
  have hP : va_P D vwCl (GW G t (g_high' (g_wide' μ a1) a2)) H := hP
  have hD : va_D (OA (GL G) s.heap.size) (GW G t (g_high' (g_wide' μ a1) a2)) := hD
  have hSz : s.heap.size ≤ H.size := hS.1
  refine lv_aload_n hx hb dX1_layOut_10 rfl (lv_at hl 0 rfl) ?_
  refine lv_iload_n hx hb dX1_layOut_11 rfl (lv_at hl 3 rfl) ?_
  refine va_put (D := D) (ci := 2) (v := .int a3) (ty := .int) hx hb hts inX1 tyX1 tyX1_ok nmX1 hown hK hP hD hS 0 rfl rfl 2 (by decide) (hts _ qw125) (fun _ h9 => h9) rfl (by decide +kernel) rfl rfl (Nat.le_of_ble_eq_true rfl) dX1_layOut_12 (fun H locs hP hD hS => ?_)
  have hP : va_P D vwCl (GW G t (g_pond' (g_high' (g_wide' μ a1) a2) a3)) H := hP
  have hD : va_D (OA (GL G) s.heap.size) (GW G t (g_pond' (g_high' (g_wide' μ a1) a2) a3)) := hD
  have hSz : s.heap.size ≤ H.size := hS.1
  refine lv_aload_n hx hb dX1_layOut_15 rfl (lv_at hl 0 rfl) ?_
  refine lv_lload hx hb dX1_layOut_16 (lv_at hl 4 rfl) ?_
  refine va_put (D := D) (ci := 2) (v := .long a4) (ty := .long) hx hb hts inX1 tyX1 tyX1_ok nmX1 hown hK hP hD hS 0 rfl rfl 3 (by decide) (hts _ qw127) (fun _ h9 => h9) rfl (by decide +kernel) rfl rfl (Nat.le_of_ble_eq_true rfl) dX1_layOut_18 (fun H locs hP hD hS => ?_)
  have hP : va_P D vwCl (GW G t (g_walls' (g_pond' (g_high' (g_wide' μ a1) a2) a3) a4)) H := hP
  have hD : va_D (OA (GL G) s.heap.size) (GW G t (g_walls' (g_pond' (g_high' (g_wide' μ a1) a2) a3) a4)) := hD
  have hSz : s.heap.size ≤ H.size := hS.1
  refine lv_aload_n hx hb dX1_layOut_21 rfl (lv_at hl 0 rfl) ?_
  refine lv_lconst (v := (0)) hx hb dX1_layOut_22 (by decide) ?_
  refine va_put (D := D) (ci := 2) (v := .long (0 : Int64)) (ty := .long) hx hb hts inX1 tyX1 tyX1_ok nmX1 hown hK hP hD hS 0 rfl rfl 4 (by decide) (hts _ qw129) (fun _ h9 => h9) rfl (by decide +kernel) rfl rfl (Nat.le_of_ble_eq_true rfl) dX1_layOut_23 (fun H locs hP hD hS => ?_)
  have hP : va_P D vwCl (GW G t (g_paved' (g_walls' (g_pond' (g_high' (g_wide' μ a1) a2) a3) a4) (0 : Int64))) H := hP
  have hD : va_D (OA (GL G) s.heap.size) (GW G t (g_paved' (g_walls' (g_pond' (g_high' (g_wide' μ a1) a2) a3) a4) (0 : Int64))) := hD
  have hSz : s.heap.size ≤ H.size := hS.1
  refine lv_aload_n hx hb dX1_layOut_26 rfl (lv_at hl 0 rfl) ?_
  refine lv_iconst (v := (0)) hx hb dX1_layOut_27 (by decide) ?_
  refine va_put (D := D) (ci := 2) (v := .int (0 : Int32)) (ty := .int) hx hb hts inX1 tyX1 tyX1_ok nmX1 hown hK hP hD hS 0 rfl rfl 5 (by decide) (hts _ qw131) (fun _ h9 => h9) rfl (by decide +kernel) rfl rfl (Nat.le_of_ble_eq_true rfl) dX1_layOut_28 (fun H locs hP hD hS => ?_)
  have hP : va_P D vwCl (GW G t (g_tc' (g_paved' (g_walls' (g_pond' (g_high' (g_wide' μ a1) a2) a3) a4) (0 : Int64)) (0 : Int32))) H := hP
  have hD : va_D (OA (GL G) s.heap.size) (GW G t (g_tc' (g_paved' (g_walls' (g_pond' (g_high' (g_wide' μ a1) a2) a3) a4) (0 : Int64)) (0 : Int32))) := hD
  have hSz : s.heap.size ≤ H.size := hS.1
  obtain rfl := Option.some.inj h
  exact W.vret hx hb hr (fun t ht hW => ⟨rfl, by rw [ht]; exact hP, hD, hS.F ht⟩) hS.2.2 dX1_layOut_31

abbrev rm_X1_putTriple : Room := { frames := 1, cells := 0, slots := 0, locals := 40 }
theorem ok_X1_putTriple : okY yX1_putTriple 3 := ⟨by decide +kernel, by decide +kernel, by decide +kernel⟩
set_option maxHeartbeats 4000000 in
set_option maxRecDepth 100000 in
theorem c_X1_putTriple (l : Launch) (z0 : Nat) (D : va_G) (t : Nat → ClassId) (G : Nat → Nat) (μ : GS) (a1 : Int32) (a2 : Int32) (a3 : Int32) (res : (Int64) × (Int32) × (Nat → Int32)) (sz : Nat) (h : f_X1_putTriple μ a1 a2 a3 = some res) : Met l yX1_putTriple (ws_ yX1_putTriple cX1_putTriple 4 none) rm_X1_putTriple (PM z0 D t [.ref (G 0), .int a1, .int a2, .int a3] (GW G t μ) (GL G) sz) (QM none D (GW G t (g_names' (g_tc' (g_paved' μ res.1) res.2.1) res.2.2)) (GL G) sz) 0 0 (OA (GL G) sz) := by
  refine Met.ofW (cc := cX1_putTriple) (maxL := 4) (ret := none) (by decide) rfl ?_
  intro p e s m args below meth c s₁ Bo hml hv
  obtain ⟨rfl, hC, hsz, hP, hD, hZ⟩ := hv
  have hx := Bo.exec
  have hb := Bo.bytes
  have hr := Bo.returns
  have hts : ∀ w ∈ LA, w.before _ s = true := fun w hw => atoms_spec (ws := ws_ yX1_putTriple cX1_putTriple 4 none) Bo.pre w (List.mem_cons_of_mem _ hw)
  have hown : s.vm.findClass RX1 = some m.cls := findClass_of_methodNamed Bo.named
  have hlocks := Bo.notSynchronized
  have hK := hC.1
  subst hsz
  have hl := lv_entry ([.ref (G 0), .int a1, .int a2, .int a3]) (n := 4) (Nat.le_of_ble_eq_true rfl)
  rw [lg_entry_eq]
  generalize (lg_sl ([.ref (G 0), .int a1, .int a2, .int a3]) ++ List.replicate (4 - (lg_sl ([.ref (G 0), .int a1, .int a2, .int a3])).length) Slot.unset).toArray = ls at hl ⊢
  have hl : lv_has ls 4 [(0, .ref (G 0)), (1, .int a1), (2, .int a2), (3, .int a3)] := hl
  suffices K9 : ∀ (H : Heap) (locs : List Loc), va_P D vwCl (GW G t μ) H → va_S (OA (GL G) s.heap.size) s.heap H locs → W p l e (headSpec (ws_ yX1_putTriple cX1_putTriple 4 none) rm_X1_putTriple).room s m ([.ref (G 0), .int a1, .int a2, .int a3] : List Value).toArray below meth c H locs 0 0 (MQ below (QM none D (GW G t (g_names' (g_tc' (g_paved' μ res.1) res.2.1) res.2.2)) (GL G) s.heap.size) ([.ref (G 0), .int a1, .int a2, .int a3] : List Value).toArray s 0 0 (OA (GL G) s.heap.size)) (F0 m 0 ls []) from K9 s.heap [] hP va_S.rf
  intro H locs hP hS
  have hSz : s.heap.size ≤ H.size := hS.1
  unfold f_X1_putTriple at h
  refine lv_aload_n hx hb dX1_putTriple_0 rfl (lv_at hl 0 rfl) ?_
  refine va_get hx hb hts inX1 hown hK hP 0 rfl rfl 5 (by decide) (hts _ qw131) (fun _ h9 => h9) rfl dX1_putTriple_1 ?_
  refine lv_aload_n hx hb dX1_putTriple_4 rfl (lv_at hl 0 rfl) ?_
  refine va_get hx hb hts inX1 hown hK hP 0 rfl rfl 8 (by decide) (hts _ qw137) (fun _ h9 => h9) rfl dX1_putTriple_5 ?_
  refine va_alen hx hb hK hP 1 0 rfl rfl (v := 21) rfl dX1_putTriple_8 ?_
  refine lv_icmp_ge (tgt := 52) hx hb dX1_putTriple_9 (by decide) (fun hc => ?_) (fun hc => ?_)
  · have h := iteT hc h
    obtain rfl := Option.some.inj h
    exact W.vret hx hb hr (fun t ht hW => ⟨rfl, by rw [ht]; exact hP, hD, hS.F ht⟩) hS.2.2 dX1_putTriple_52
  · have h := iteF hc h
    refine lv_aload_n hx hb dX1_putTriple_12 rfl (lv_at hl 0 rfl) ?_
    refine va_get hx hb hts inX1 hown hK hP 0 rfl rfl 8 (by decide) (hts _ qw137) (fun _ h9 => h9) rfl dX1_putTriple_13 ?_
    refine lv_aload_n hx hb dX1_putTriple_16 rfl (lv_at hl 0 rfl) ?_
    refine va_get hx hb hts inX1 hown hK hP 0 rfl rfl 5 (by decide) (hts _ qw131) (fun _ h9 => h9) rfl dX1_putTriple_17 ?_
    refine lv_iload_n hx hb dX1_putTriple_20 rfl (lv_at hl 1 rfl) ?_
    refine lv_iload_n hx hb dX1_putTriple_21 rfl (lv_at hl 2 rfl) ?_
    refine lv_iload_n hx hb dX1_putTriple_22 rfl (lv_at hl 3 rfl) ?_
    obtain ⟨r1, er1, h⟩ := obind h
    refine call_R (va_runSN (As := [.int a1, .int a2, .int a3]) (rest := [.int (g_tc μ), .ref (G 1)]) ⟨hx, hb, hml, hown, hts⟩ (c_X4_nameOf l z0 D t a1 a2 a3 _ er1) ⟨kN hts (hC.2.1 _ qw630) qw1 qw632 ok_X4_nameOf ⟨Nat.le_of_ble_eq_true rfl, Nat.le_of_ble_eq_true rfl⟩, hts _ qw631, trivial⟩ ⟨PR.blind, fun U hU hW => ⟨rfl, by rw [hU]; exact (hC.at hS hZ).warm hW, by rw [hU]; exact va_P_nil⟩⟩ rfl rfl hl.1 rfl (lv_room (Nat.le_of_ble_eq_true rfl)) dX1_putTriple_23 ⟨Nat.le_of_ble_eq_true rfl, Nat.le_of_ble_eq_true rfl⟩) ?_
    obtain ⟨f2, ef2, h⟩ := obind h
    refine k_iast (ws' := (GW G t (g_names' μ f2))) hx hb hK hP hD hS 1 rfl ef2 rfl dX1_putTriple_26 (fun H locs hP hD hS => ?_)
    have hSz : s.heap.size ≤ H.size := hS.1
    refine lv_aload_n hx hb dX1_putTriple_27 rfl (lv_at hl 0 rfl) ?_
    refine lv_dup hx hb dX1_putTriple_28 rfl ?_
    refine va_get hx hb hts inX1 hown hK hP 0 rfl rfl 5 (by decide) (hts _ qw131) (fun _ h9 => h9) rfl dX1_putTriple_29 ?_
    refine lv_iconst (v := (1)) hx hb dX1_putTriple_32 (by decide) ?_
    refine lv_iadd hx hb dX1_putTriple_33 ?_
    obtain ⟨x3, ex3, h⟩ := jlet_some h
    refine topI ex3 ?_
    refine va_put (D := D) (ci := 2) (v := .int x3) (ty := .int) hx hb hts inX1 tyX1 tyX1_ok nmX1 hown hK hP hD hS 0 rfl rfl 5 (by decide) (hts _ qw131) (fun _ h9 => h9) rfl (by decide +kernel) rfl rfl (Nat.le_of_ble_eq_true rfl) dX1_putTriple_34 (fun H locs hP hD hS => ?_)
    have hP : va_P D vwCl (GW G t (g_names' (g_tc' μ x3) f2)) H := hP
    have hD : va_D (OA (GL G) s.heap.size) (GW G t (g_names' (g_tc' μ x3) f2)) := hD
    have hSz : s.heap.size ≤ H.size := hS.1
    refine lv_aload_n hx hb dX1_putTriple_37 rfl (lv_at hl 0 rfl) ?_
    refine lv_dup hx hb dX1_putTriple_38 rfl ?_
    refine va_get hx hb hts inX1 hown hK hP 0 rfl rfl 4 (by decide) (hts _ qw129) (fun _ h9 => h9) rfl dX1_putTriple_39 ?_
    refine lv_iload_n hx hb dX1_putTriple_42 rfl (lv_at hl 1 rfl) ?_
    refine lv_iload_n hx hb dX1_putTriple_43 rfl (lv_at hl 2 rfl) ?_
    refine lv_iload_n hx hb dX1_putTriple_44 rfl (lv_at hl 3 rfl) ?_
    obtain ⟨r4, er4, h⟩ := obind h
    refine call_R (va_runSN (As := [.int a1, .int a2, .int a3]) (rest := [.long (g_paved μ), .ref (G 0)]) ⟨hx, hb, hml, hown, hts⟩ (c_X4_cellsOf l z0 D t a1 a2 a3 _ er4) ⟨kN hts (hC.2.1 _ qw366) qw1 qw313 ok_X4_cellsOf ⟨Nat.le_of_ble_eq_true rfl, Nat.le_of_ble_eq_true rfl⟩, hts _ qw312, trivial⟩ ⟨PR.blind, fun U hU hW => ⟨rfl, by rw [hU]; exact (hC.at hS hZ).warm hW, by rw [hU]; exact va_P_nil⟩⟩ rfl rfl hl.1 rfl (lv_room (Nat.le_of_ble_eq_true rfl)) dX1_putTriple_45 ⟨Nat.le_of_ble_eq_true rfl, Nat.le_of_ble_eq_true rfl⟩) ?_
    refine lv_lor hx hb dX1_putTriple_48 ?_
    obtain ⟨x5, ex5, h⟩ := jlet_some h
    refine topJ ex5 ?_
    refine va_put (D := D) (ci := 2) (v := .long x5) (ty := .long) hx hb hts inX1 tyX1 tyX1_ok nmX1 hown hK hP hD hS 0 rfl rfl 4 (by decide) (hts _ qw129) (fun _ h9 => h9) rfl (by decide +kernel) rfl rfl (Nat.le_of_ble_eq_true rfl) dX1_putTriple_49 (fun H locs hP hD hS => ?_)
    have hP : va_P D vwCl (GW G t (g_names' (g_tc' (g_paved' μ x5) x3) f2)) H := hP
    have hD : va_D (OA (GL G) s.heap.size) (GW G t (g_names' (g_tc' (g_paved' μ x5) x3) f2)) := hD
    have hSz : s.heap.size ≤ H.size := hS.1
    obtain rfl := Option.some.inj h
    exact W.vret hx hb hr (fun t ht hW => ⟨rfl, by rw [ht]; exact hP, hD, hS.F ht⟩) hS.2.2 dX1_putTriple_52

abbrev rm_X1_takeTriple : Room := { frames := 2, cells := 0, slots := 0, locals := 62 }
theorem ok_X1_takeTriple : okY yX1_takeTriple 1 := ⟨by decide +kernel, by decide +kernel, by decide +kernel⟩
set_option maxHeartbeats 4000000 in
set_option maxRecDepth 100000 in
theorem c_X1_takeTriple (l : Launch) (z0 : Nat) (D : va_G) (t : Nat → ClassId) (G : Nat → Nat) (μ : GS) (a1 : Int32) (res : (Int64) × (Int32) × (Nat → Int32)) (sz : Nat) (h : f_X1_takeTriple μ a1 = some res) : Met l yX1_takeTriple (ws_ yX1_takeTriple cX1_takeTriple 3 none) rm_X1_takeTriple (PM z0 D t [.ref (G 0), .int a1] (GW G t μ) (GL G) sz) (QM none D (GW G t (g_names' (g_tc' (g_paved' μ res.1) res.2.1) res.2.2)) (GL G) sz) 0 0 (OA (GL G) sz) := by
  refine Met.ofW (cc := cX1_takeTriple) (maxL := 3) (ret := none) (by decide) rfl ?_
  intro p e s m args below meth c s₁ Bo hml hv
  obtain ⟨rfl, hC, hsz, hP, hD, hZ⟩ := hv
  have hx := Bo.exec
  have hb := Bo.bytes
  have hr := Bo.returns
  have hts : ∀ w ∈ LA, w.before _ s = true := fun w hw => atoms_spec (ws := ws_ yX1_takeTriple cX1_takeTriple 3 none) Bo.pre w (List.mem_cons_of_mem _ hw)
  have hown : s.vm.findClass RX1 = some m.cls := findClass_of_methodNamed Bo.named
  have hlocks := Bo.notSynchronized
  have hK := hC.1
  subst hsz
  have hl := lv_entry ([.ref (G 0), .int a1]) (n := 3) (Nat.le_of_ble_eq_true rfl)
  rw [lg_entry_eq]
  generalize (lg_sl ([.ref (G 0), .int a1]) ++ List.replicate (3 - (lg_sl ([.ref (G 0), .int a1])).length) Slot.unset).toArray = ls at hl ⊢
  have hl : lv_has ls 3 [(0, .ref (G 0)), (1, .int a1)] := hl
  suffices K9 : ∀ (H : Heap) (locs : List Loc), va_P D vwCl (GW G t μ) H → va_S (OA (GL G) s.heap.size) s.heap H locs → W p l e (headSpec (ws_ yX1_takeTriple cX1_takeTriple 3 none) rm_X1_takeTriple).room s m ([.ref (G 0), .int a1] : List Value).toArray below meth c H locs 0 0 (MQ below (QM none D (GW G t (g_names' (g_tc' (g_paved' μ res.1) res.2.1) res.2.2)) (GL G) s.heap.size) ([.ref (G 0), .int a1] : List Value).toArray s 0 0 (OA (GL G) s.heap.size)) (F0 m 0 ls []) from K9 s.heap [] hP va_S.rf
  intro H locs hP hS
  have hSz : s.heap.size ≤ H.size := hS.1
  unfold f_X1_takeTriple at h
  refine lv_iload_n hx hb dX1_takeTriple_0 rfl (lv_at hl 1 rfl) ?_
  refine lv_if_lt (tgt := 12) hx hb dX1_takeTriple_1 (by decide) (fun hc => ?_) (fun hc => ?_)
  · have h := iteT hc h
    obtain rfl := Option.some.inj h
    exact W.vret hx hb hr (fun t ht hW => ⟨rfl, by rw [ht]; exact hP, hD, hS.F ht⟩) hS.2.2 dX1_takeTriple_12
  · have h := iteF hc h
    refine lv_iload_n hx hb dX1_takeTriple_4 rfl (lv_at hl 1 rfl) ?_
    refine lv_aload_n hx hb dX1_takeTriple_5 rfl (lv_at hl 0 rfl) ?_
    refine va_get hx hb hts inX1 hown hK hP 0 rfl rfl 5 (by decide) (hts _ qw131) (fun _ h9 => h9) rfl dX1_takeTriple_6 ?_
    refine lv_icmp_lt (tgt := 13) hx hb dX1_takeTriple_9 (by decide) (fun hc => ?_) (fun hc => ?_)
    · have h := iteT hc h
      refine lv_aload_n hx hb dX1_takeTriple_13 rfl (lv_at hl 0 rfl) ?_
      refine lv_dup hx hb dX1_takeTriple_14 rfl ?_
      refine va_get hx hb hts inX1 hown hK hP 0 rfl rfl 4 (by decide) (hts _ qw129) (fun _ h9 => h9) rfl dX1_takeTriple_15 ?_
      refine lv_aload_n hx hb dX1_takeTriple_18 rfl (lv_at hl 0 rfl) ?_
      refine lv_iload_n hx hb dX1_takeTriple_19 rfl (lv_at hl 1 rfl) ?_
      obtain ⟨r1, er1, h⟩ := obind h
      refine call_R (va_runV (As := [.int a1]) (rest := [.long (g_paved μ), .ref (G 0)]) ⟨hx, hb, hml, hown, hts⟩ (c_X1_tripleCells l z0 D t G μ a1 _ er1) (kV hts qw447 qw449 qs15 qw8 qw450 ok_X1_tripleCells ⟨Nat.le_of_ble_eq_true rfl, Nat.le_of_ble_eq_true rfl⟩) ⟨PR.blind, va_recv hK hP (ci := 2) (q0 := 0) rfl rfl, fun U hU hW => ⟨rfl, by rw [hU]; exact (hC.at hS hZ).warm hW, by rw [hU]; exact hP⟩⟩ rfl rfl hl.1 rfl (lv_room (Nat.le_of_ble_eq_true rfl)) dX1_takeTriple_20 ⟨Nat.le_of_ble_eq_true rfl, Nat.le_of_ble_eq_true rfl⟩) ?_
      refine lv_ldc2 (v := (-1)) hx hb hown (hts _ qw254) dX1_takeTriple_23 ?_
      refine lv_lxor hx hb dX1_takeTriple_26 ?_
      refine lv_land hx hb dX1_takeTriple_27 ?_
      obtain ⟨x2, ex2, h⟩ := jlet_some h
      refine topJ ex2 ?_
      refine va_put (D := D) (ci := 2) (v := .long x2) (ty := .long) hx hb hts inX1 tyX1 tyX1_ok nmX1 hown hK hP hD hS 0 rfl rfl 4 (by decide) (hts _ qw129) (fun _ h9 => h9) rfl (by decide +kernel) rfl rfl (Nat.le_of_ble_eq_true rfl) dX1_takeTriple_28 (fun H locs hP hD hS => ?_)
      have hP : va_P D vwCl (GW G t (g_paved' μ x2)) H := hP
      have hD : va_D (OA (GL G) s.heap.size) (GW G t (g_paved' μ x2)) := hD
      have hSz : s.heap.size ≤ H.size := hS.1
      refine lv_aload_n hx hb dX1_takeTriple_31 rfl (lv_at hl 0 rfl) ?_
      refine lv_dup hx hb dX1_takeTriple_32 rfl ?_
      refine va_get hx hb hts inX1 hown hK hP 0 rfl rfl 5 (by decide) (hts _ qw131) (fun _ h9 => h9) rfl dX1_takeTriple_33 ?_
      refine lv_iconst (v := (1)) hx hb dX1_takeTriple_36 (by decide) ?_
      refine lv_isub hx hb dX1_takeTriple_37 ?_
      obtain ⟨x3, ex3, h⟩ := jlet_some h
      refine topI ex3 ?_
      refine va_put (D := D) (ci := 2) (v := .int x3) (ty := .int) hx hb hts inX1 tyX1 tyX1_ok nmX1 hown hK hP hD hS 0 rfl rfl 5 (by decide) (hts _ qw131) (fun _ h9 => h9) rfl (by decide +kernel) rfl rfl (Nat.le_of_ble_eq_true rfl) dX1_takeTriple_38 (fun H locs hP hD hS => ?_)
      have hP : va_P D vwCl (GW G t (g_tc' (g_paved' μ x2) x3)) H := hP
      have hD : va_D (OA (GL G) s.heap.size) (GW G t (g_tc' (g_paved' μ x2) x3)) := hD
      have hSz : s.heap.size ≤ H.size := hS.1
      refine lv_iload_n hx hb dX1_takeTriple_41 rfl (lv_at hl 1 rfl) ?_
      refine lv_istore_n (lv' := [(2, .int a1), (0, .ref (G 0)), (1, .int a1)]) hx hb dX1_takeTriple_42 rfl hl (by decide) rfl (fun ls hl => ?_)
      obtain ⟨o10, eo10, h⟩ := obind h
      have hL43 : ∀ (n : Nat) (y2_43 : Int32) (names_43 : Nat → Int32) (o10 : (Nat → Int32)), f_X1_takeTriple_L43 x3 n y2_43 names_43 = some o10 → (∀ (ls : Array Slot) (H : Heap) (locs : List Loc), lv_has ls 3 [] → va_P D vwCl (GW G t (g_names' (g_tc' (g_paved' μ x2) x3) o10)) H → va_D (OA (GL G) s.heap.size) (GW G t (g_names' (g_tc' (g_paved' μ x2) x3) o10)) → va_S (OA (GL G) s.heap.size) s.heap H locs → W p l e (headSpec (ws_ yX1_takeTriple cX1_takeTriple 3 none) rm_X1_takeTriple).room s m ([.ref (G 0), .int a1] : List Value).toArray below meth c H locs 0 0 (MQ below (QM none D (GW G t (g_names' (g_tc' (g_paved' μ res.1) res.2.1) res.2.2)) (GL G) s.heap.size) ([.ref (G 0), .int a1] : List Value).toArray s 0 0 (OA (GL G) s.heap.size)) (F0 m 82 ls [])) → ∀ (ls : Array Slot) (H : Heap) (locs : List Loc), lv_has ls 3 [(0, .ref (G 0)), (2, .int y2_43)] → va_P D vwCl (GW G t (g_names' (g_tc' (g_paved' μ x2) x3) names_43)) H → va_D (OA (GL G) s.heap.size) (GW G t (g_names' (g_tc' (g_paved' μ x2) x3) names_43)) → va_S (OA (GL G) s.heap.size) s.heap H locs → W p l e (headSpec (ws_ yX1_takeTriple cX1_takeTriple 3 none) rm_X1_takeTriple).room s m ([.ref (G 0), .int a1] : List Value).toArray below meth c H locs 0 0 (MQ below (QM none D (GW G t (g_names' (g_tc' (g_paved' μ res.1) res.2.1) res.2.2)) (GL G) s.heap.size) ([.ref (G 0), .int a1] : List Value).toArray s 0 0 (OA (GL G) s.heap.size)) (F0 m 43 ls []) := by
        intro n
        induction n with
        | zero => intro y2_43 names_43 o10 h; exact absurd h (fun z => by cases z)
        | succ n ih =>
          intro y2_43 names_43 o10 h hK43 ls H locs hl hP hD hS
          replace h : f_X1_takeTriple_L43_b x3 (f_X1_takeTriple_L43 x3 n) y2_43 names_43 = some o10 := h
          unfold f_X1_takeTriple_L43_b at h
          have hSz : s.heap.size ≤ H.size := hS.1
          refine lv_iload_n hx hb dX1_takeTriple_43 rfl (lv_at hl 1 rfl) ?_
          refine lv_aload_n hx hb dX1_takeTriple_44 rfl (lv_at hl 0 rfl) ?_
          refine va_get hx hb hts inX1 hown hK hP 0 rfl rfl 5 (by decide) (hts _ qw131) (fun _ h9 => h9) rfl dX1_takeTriple_45 ?_
          refine lv_icmp_ge (tgt := 82) hx hb dX1_takeTriple_48 (by decide) (fun hc => ?_) (fun hc => ?_)
          · have h := iteT hc h
            obtain rfl := Option.some.inj h
            exact hK43 ls H locs (lv_sub hl [] rfl) hP hD hS
          · have h := iteF hc h
            refine lv_iload_n hx hb dX1_takeTriple_51 rfl (lv_at hl 1 rfl) ?_
            refine lv_iconst (v := (1)) hx hb dX1_takeTriple_52 (by decide) ?_
            refine lv_iadd hx hb dX1_takeTriple_53 ?_
            refine lv_aload_n hx hb dX1_takeTriple_54 rfl (lv_at hl 0 rfl) ?_
            refine va_get hx hb hts inX1 hown hK hP 0 rfl rfl 8 (by decide) (hts _ qw137) (fun _ h9 => h9) rfl dX1_takeTriple_55 ?_
            refine va_alen hx hb hK hP 1 0 rfl rfl (v := 21) rfl dX1_takeTriple_58 ?_
            refine lv_icmp_ge (tgt := 82) hx hb dX1_takeTriple_59 (by decide) (fun hc => ?_) (fun hc => ?_)
            · have h := iteT hc h
              obtain rfl := Option.some.inj h
              exact hK43 ls H locs (lv_sub hl [] rfl) hP hD hS
            · have h := iteF hc h
              refine lv_aload_n hx hb dX1_takeTriple_62 rfl (lv_at hl 0 rfl) ?_
              refine va_get hx hb hts inX1 hown hK hP 0 rfl rfl 8 (by decide) (hts _ qw137) (fun _ h9 => h9) rfl dX1_takeTriple_63 ?_
              refine lv_iload_n hx hb dX1_takeTriple_66 rfl (lv_at hl 1 rfl) ?_
              refine lv_aload_n hx hb dX1_takeTriple_67 rfl (lv_at hl 0 rfl) ?_
              refine va_get hx hb hts inX1 hown hK hP 0 rfl rfl 8 (by decide) (hts _ qw137) (fun _ h9 => h9) rfl dX1_takeTriple_68 ?_
              refine lv_iload_n hx hb dX1_takeTriple_71 rfl (lv_at hl 1 rfl) ?_
              refine lv_iconst (v := (1)) hx hb dX1_takeTriple_72 (by decide) ?_
              refine lv_iadd hx hb dX1_takeTriple_73 ?_
              obtain ⟨v11, ev11, h⟩ := obind h
              refine k_iald hx hb hK hP 1 rfl ev11 dX1_takeTriple_74 ?_
              obtain ⟨f12, ef12, h⟩ := obind h
              refine k_iast (ws' := (GW G t (g_names' (g_tc' (g_paved' μ x2) x3) f12))) hx hb hK hP hD hS 1 rfl ef12 rfl dX1_takeTriple_75 (fun H locs hP hD hS => ?_)
              have hSz : s.heap.size ≤ H.size := hS.1
              obtain ⟨x13, ex13, h⟩ := jlet_some h
              refine lv_iinc (v := x13) (lv' := [(2, .int x13), (0, .ref (G 0))]) hx hb dX1_takeTriple_76 hl (k := 1) rfl (by rw [ex13]; rfl) (by decide) rfl (fun ls hl => ?_)
              refine lv_goto (tgt := 43) hx hb dX1_takeTriple_79 (by decide) ?_
              exact ih _ _ _ h hK43 ls H locs (lv_sub hl [1, 0] rfl) hP hD hS
      refine hL43 _ _ _ _ eo10 (fun ls H locs hl hP hD hS => ?_) ls H locs (lv_sub hl [1, 0] rfl) hP hD hS
      have hSz : s.heap.size ≤ H.size := hS.1
      obtain rfl := Option.some.inj h
      exact W.vret hx hb hr (fun t ht hW => ⟨rfl, by rw [ht]; exact hP, hD, hS.F ht⟩) hS.2.2 dX1_takeTriple_82
    · have h := iteF hc h
      obtain rfl := Option.some.inj h
      exact W.vret hx hb hr (fun t ht hW => ⟨rfl, by rw [ht]; exact hP, hD, hS.F ht⟩) hS.2.2 dX1_takeTriple_12

abbrev rm_X1_flipBlock : Room := { frames := 3, cells := 0, slots := 0, locals := 85 }
theorem ok_X1_flipBlock : okY yX1_flipBlock 3 := ⟨by decide +kernel, by decide +kernel, by decide +kernel⟩
set_option maxHeartbeats 4000000 in
set_option maxRecDepth 100000 in
theorem c_X1_flipBlock (l : Launch) (z0 : Nat) (D : va_G) (t : Nat → ClassId) (G : Nat → Nat) (μ : GS) (a1 : Int32) (a2 : Int32) (a3 : Int32) (res : (Int64) × (Int32) × (Int32) × (Nat → Int32)) (sz : Nat) (h : f_X1_flipBlock μ a1 a2 a3 = some res) : Met l yX1_flipBlock (ws_ yX1_flipBlock cX1_flipBlock 7 none) rm_X1_flipBlock (PM z0 D t [.ref (G 0), .int a1, .int a2, .int a3] (GW G t μ) (GL G) sz) (QM none D (GW G t (g_names' (g_flips' (g_tc' (g_paved' μ res.1) res.2.1) res.2.2.1) res.2.2.2)) (GL G) sz) 0 0 (OA (GL G) sz) := by
  refine Met.ofW (cc := cX1_flipBlock) (maxL := 7) (ret := none) (by decide) rfl ?_
  intro p e s m args below meth c s₁ Bo hml hv
  obtain ⟨rfl, hC, hsz, hP, hD, hZ⟩ := hv
  have hx := Bo.exec
  have hb := Bo.bytes
  have hr := Bo.returns
  have hts : ∀ w ∈ LA, w.before _ s = true := fun w hw => atoms_spec (ws := ws_ yX1_flipBlock cX1_flipBlock 7 none) Bo.pre w (List.mem_cons_of_mem _ hw)
  have hown : s.vm.findClass RX1 = some m.cls := findClass_of_methodNamed Bo.named
  have hlocks := Bo.notSynchronized
  have hK := hC.1
  subst hsz
  have hl := lv_entry ([.ref (G 0), .int a1, .int a2, .int a3]) (n := 7) (Nat.le_of_ble_eq_true rfl)
  rw [lg_entry_eq]
  generalize (lg_sl ([.ref (G 0), .int a1, .int a2, .int a3]) ++ List.replicate (7 - (lg_sl ([.ref (G 0), .int a1, .int a2, .int a3])).length) Slot.unset).toArray = ls at hl ⊢
  have hl : lv_has ls 7 [(0, .ref (G 0)), (1, .int a1), (2, .int a2), (3, .int a3)] := hl
  suffices K9 : ∀ (H : Heap) (locs : List Loc), va_P D vwCl (GW G t μ) H → va_S (OA (GL G) s.heap.size) s.heap H locs → W p l e (headSpec (ws_ yX1_flipBlock cX1_flipBlock 7 none) rm_X1_flipBlock).room s m ([.ref (G 0), .int a1, .int a2, .int a3] : List Value).toArray below meth c H locs 0 0 (MQ below (QM none D (GW G t (g_names' (g_flips' (g_tc' (g_paved' μ res.1) res.2.1) res.2.2.1) res.2.2.2)) (GL G) s.heap.size) ([.ref (G 0), .int a1, .int a2, .int a3] : List Value).toArray s 0 0 (OA (GL G) s.heap.size)) (F0 m 0 ls []) from K9 s.heap [] hP va_S.rf
  intro H locs hP hS
  have hSz : s.heap.size ≤ H.size := hS.1
  unfold f_X1_flipBlock at h
  refine lv_aload_n hx hb dX1_flipBlock_0 rfl (lv_at hl 0 rfl) ?_
  refine lv_iload_n hx hb dX1_flipBlock_1 rfl (lv_at hl 1 rfl) ?_
  refine lv_iload_n hx hb dX1_flipBlock_2 rfl (lv_at hl 2 rfl) ?_
  obtain ⟨r1, er1, h⟩ := obind h
  refine call_R (va_runSN (As := [.int a1, .int a2]) (rest := [.ref (G 0)]) ⟨hx, hb, hml, hown, hts⟩ (c_X4_cellAt l z0 D t a1 a2 _ er1) ⟨kN hts (hC.2.1 _ qw442) qw1 qw236 ok_X4_cellAt ⟨Nat.le_of_ble_eq_true rfl, Nat.le_of_ble_eq_true rfl⟩, hts _ qw235, trivial⟩ ⟨PR.blind, fun U hU hW => ⟨rfl, by rw [hU]; exact (hC.at hS hZ).warm hW, by rw [hU]; exact va_P_nil⟩⟩ rfl rfl hl.1 rfl (lv_room (Nat.le_of_ble_eq_true rfl)) dX1_flipBlock_3 ⟨Nat.le_of_ble_eq_true rfl, Nat.le_of_ble_eq_true rfl⟩) ?_
  obtain ⟨r2, er2, h⟩ := obind h
  refine call_R (va_runV (As := [.long r1]) (rest := []) ⟨hx, hb, hml, hown, hts⟩ (c_X1_tripleOver l z0 D t G μ r1 _ er2) (kV hts qw443 qw444 qw445 qw8 qw446 ok_X1_tripleOver ⟨Nat.le_of_ble_eq_true rfl, Nat.le_of_ble_eq_true rfl⟩) ⟨PR.blind, va_recv hK hP (ci := 2) (q0 := 0) rfl rfl, fun U hU hW => ⟨rfl, by rw [hU]; exact (hC.at hS hZ).warm hW, by rw [hU]; exact hP⟩⟩ rfl rfl hl.1 rfl (lv_room (Nat.le_of_ble_eq_true rfl)) dX1_flipBlock_6 ⟨Nat.le_of_ble_eq_true rfl, Nat.le_of_ble_eq_true rfl⟩) ?_
  refine lv_istore (lv' := [(4, .int r2), (0, .ref (G 0)), (1, .int a1), (2, .int a2), (3, .int a3)]) hx hb dX1_flipBlock_9 hl (by decide) rfl (fun ls hl => ?_)
  refine lv_aload_n hx hb dX1_flipBlock_11 rfl (lv_at hl 1 rfl) ?_
  refine lv_iload_n hx hb dX1_flipBlock_12 rfl (lv_at hl 2 rfl) ?_
  refine lv_iload_n hx hb dX1_flipBlock_13 rfl (lv_at hl 3 rfl) ?_
  refine lv_iload_n hx hb dX1_flipBlock_14 rfl (lv_at hl 4 rfl) ?_
  obtain ⟨r3, er3, h⟩ := obind h
  refine call_R (va_runS (As := [.int a1, .int a2, .int a3]) (rest := [.ref (G 0)]) ⟨hx, hb, hml, hown, hts⟩ (c_X1_lastFlipCell l z0 D t a1 a2 a3 _ er3) (kS hts qw464 qw465 qw8 qw466 ok_X1_lastFlipCell ⟨Nat.le_of_ble_eq_true rfl, Nat.le_of_ble_eq_true rfl⟩) ⟨PR.blind, fun U hU hW => ⟨rfl, by rw [hU]; exact (hC.at hS hZ).warm hW, by rw [hU]; exact va_P_nil⟩⟩ rfl rfl hl.1 rfl (lv_room (Nat.le_of_ble_eq_true rfl)) dX1_flipBlock_15 ⟨Nat.le_of_ble_eq_true rfl, Nat.le_of_ble_eq_true rfl⟩) ?_
  obtain ⟨r4, er4, h⟩ := obind h
  refine call_R (va_runV (As := [.long r3]) (rest := []) ⟨hx, hb, hml, hown, hts⟩ (c_X1_tripleOver l z0 D t G μ r3 _ er4) (kV hts qw443 qw444 qw445 qw8 qw446 ok_X1_tripleOver ⟨Nat.le_of_ble_eq_true rfl, Nat.le_of_ble_eq_true rfl⟩) ⟨PR.blind, va_recv hK hP (ci := 2) (q0 := 0) rfl rfl, fun U hU hW => ⟨rfl, by rw [hU]; exact (hC.at hS hZ).warm hW, by rw [hU]; exact hP⟩⟩ rfl rfl hl.1 rfl (lv_room (Nat.le_of_ble_eq_true rfl)) dX1_flipBlock_18 ⟨Nat.le_of_ble_eq_true rfl, Nat.le_of_ble_eq_true rfl⟩) ?_
  refine lv_istore (lv' := [(5, .int r4), (4, .int r2), (0, .ref (G 0)), (1, .int a1), (2, .int a2), (3, .int a3)]) hx hb dX1_flipBlock_21 hl (by decide) rfl (fun ls hl => ?_)
  refine lv_iload_n hx hb dX1_flipBlock_23 rfl (lv_at hl 5 rfl) ?_
  obtain ⟨o5, eo5, h⟩ := obind h
  have hJ32_o5 : ∀ (ls : Array Slot) (H : Heap) (locs : List Loc), lv_has ls 7 [(0, .ref (G 0)), (1, .int a1), (2, .int a2), (3, .int a3), (4, .int r2), (5, .int r4)] → va_P D vwCl (GW G t μ) H → va_D (OA (GL G) s.heap.size) (GW G t μ) → va_S (OA (GL G) s.heap.size) s.heap H locs → W p l e (headSpec (ws_ yX1_flipBlock cX1_flipBlock 7 none) rm_X1_flipBlock).room s m ([.ref (G 0), .int a1, .int a2, .int a3] : List Value).toArray below meth c H locs 0 0 (MQ below (QM none D (GW G t (g_names' (g_flips' (g_tc' (g_paved' μ res.1) res.2.1) res.2.2.1) res.2.2.2)) (GL G) s.heap.size) ([.ref (G 0), .int a1, .int a2, .int a3] : List Value).toArray s 0 0 (OA (GL G) s.heap.size)) (F0 m 32 ls [.int o5]) := by
    intro ls H locs hl hP hD hS
    have hSz : s.heap.size ≤ H.size := hS.1
    refine lv_aload_n hx hb dX1_flipBlock_32 rfl (lv_at hl 0 rfl) ?_
    refine lv_iload hx hb dX1_flipBlock_33 (lv_at hl 4 rfl) ?_
    obtain ⟨r6, er6, h⟩ := obind h
    refine call_R (va_runV (As := [.int r2]) (rest := [.int o5]) ⟨hx, hb, hml, hown, hts⟩ (c_X1_tripleName l z0 D t G μ r2 _ er6) (kV hts qw451 qw452 qw453 qw8 qw454 ok_X1_tripleName ⟨Nat.le_of_ble_eq_true rfl, Nat.le_of_ble_eq_true rfl⟩) ⟨PR.blind, va_recv hK hP (ci := 2) (q0 := 0) rfl rfl, fun U hU hW => ⟨rfl, by rw [hU]; exact (hC.at hS hZ).warm hW, by rw [hU]; exact hP⟩⟩ rfl rfl hl.1 rfl (lv_room (Nat.le_of_ble_eq_true rfl)) dX1_flipBlock_35 ⟨Nat.le_of_ble_eq_true rfl, Nat.le_of_ble_eq_true rfl⟩) ?_
    obtain ⟨r7, er7, h⟩ := obind h
    refine call_R (va_runSN (As := [.int r6]) (rest := [.int o5]) ⟨hx, hb, hml, hown, hts⟩ (c_X4_turnOf l z0 D t r6 _ er7) ⟨kN hts (hC.2.1 _ qw461) qw1 qw463 ok_X4_turnOf ⟨Nat.le_of_ble_eq_true rfl, Nat.le_of_ble_eq_true rfl⟩, hts _ qw462, trivial⟩ ⟨PR.blind, fun U hU hW => ⟨rfl, by rw [hU]; exact (hC.at hS hZ).warm hW, by rw [hU]; exact va_P_nil⟩⟩ rfl rfl hl.1 rfl (lv_room (Nat.le_of_ble_eq_true rfl)) dX1_flipBlock_38 ⟨Nat.le_of_ble_eq_true rfl, Nat.le_of_ble_eq_true rfl⟩) ?_
    refine lv_isub hx hb dX1_flipBlock_41 ?_
    obtain ⟨x8, ex8, h⟩ := jlet_some h
    refine topI ex8 ?_
    refine lv_istore (lv' := [(6, .int x8), (0, .ref (G 0)), (1, .int a1), (2, .int a2), (3, .int a3), (4, .int r2), (5, .int r4)]) hx hb dX1_flipBlock_42 hl (by decide) rfl (fun ls hl => ?_)
    refine lv_aload_n hx hb dX1_flipBlock_44 rfl (lv_at hl 1 rfl) ?_
    refine lv_iload hx hb dX1_flipBlock_45 (lv_at hl 5 rfl) ?_
    refine lv_iload hx hb dX1_flipBlock_47 (lv_at hl 6 rfl) ?_
    refine va_mmax hx hb (hml.trans hl.1.symm) hown (hts _ qw817) (hts _ qw391) (hts _ qw18) (hts _ qw392) (Nat.le_of_ble_eq_true rfl) (Nat.le_of_ble_eq_true rfl) (Nat.le_of_ble_eq_true rfl) (Nat.le_of_ble_eq_true rfl) dX1_flipBlock_49 ?_
    obtain ⟨r9, er9, h⟩ := obind h
    refine call_M (va_runV (As := [.int (if r2 < r4 then r4 else r2)]) (rest := []) ⟨hx, hb, hml, hown, hts⟩ (c_X1_takeTriple l z0 D t G μ (if r2 < r4 then r4 else r2) _ H.size er9) (kV hts qw818 qw799 qw800 qw8 qw801 ok_X1_takeTriple ⟨Nat.le_of_ble_eq_true rfl, Nat.le_of_ble_eq_true rfl⟩) ⟨PM.blind, va_recv hK hP (ci := 2) (q0 := 0) rfl rfl, fun U hU hW => ⟨rfl, by rw [hU]; exact (hC.at hS hZ).warm hW, by rw [hU], by rw [hU]; exact hP, ⟨hD.1, fun _ _ h9 => Or.inl (in_map (L := (GL G)) rfl h9)⟩, fun q hq => hZ q (OA.ofD hD rfl hSz q hq)⟩⟩ rfl rfl hl.1 rfl (lv_room (Nat.le_of_ble_eq_true rfl)) dX1_flipBlock_52 ⟨Nat.le_of_ble_eq_true rfl, Nat.le_of_ble_eq_true rfl⟩) hS (OA.ofD hD rfl hSz) (fun H locs hP hD1 hS _ _ => ?_)
    have hP : va_P D vwCl (GW G t (g_names' (g_tc' (g_paved' μ r9.1) r9.2.1) r9.2.2)) H := hP
    have hD : va_D (OA (GL G) s.heap.size) (GW G t (g_names' (g_tc' (g_paved' μ r9.1) r9.2.1) r9.2.2)) := hD1.weaken (fun _ q _ h9 => OA.ofD hD rfl hSz q.1 h9)
    have hSz : s.heap.size ≤ H.size := hS.1
    refine lv_aload_n hx hb dX1_flipBlock_55 rfl (lv_at hl 1 rfl) ?_
    refine lv_iload hx hb dX1_flipBlock_56 (lv_at hl 5 rfl) ?_
    refine lv_iload hx hb dX1_flipBlock_58 (lv_at hl 6 rfl) ?_
    refine va_mmin hx hb (hml.trans hl.1.symm) hown (hts _ qw819) (hts _ qw388) (hts _ qw18) (hts _ qw389) (Nat.le_of_ble_eq_true rfl) (Nat.le_of_ble_eq_true rfl) (Nat.le_of_ble_eq_true rfl) (Nat.le_of_ble_eq_true rfl) dX1_flipBlock_60 ?_
    obtain ⟨r10, er10, h⟩ := obind h
    refine call_M (va_runV (As := [.int (if r4 < r2 then r4 else r2)]) (rest := []) ⟨hx, hb, hml, hown, hts⟩ (c_X1_takeTriple l z0 D t G (g_names' (g_tc' (g_paved' μ r9.1) r9.2.1) r9.2.2) (if r4 < r2 then r4 else r2) _ H.size er10) (kV hts qw818 qw799 qw800 qw8 qw801 ok_X1_takeTriple ⟨Nat.le_of_ble_eq_true rfl, Nat.le_of_ble_eq_true rfl⟩) ⟨PM.blind, va_recv hK hP (ci := 2) (q0 := 0) rfl rfl, fun U hU hW => ⟨rfl, by rw [hU]; exact (hC.at hS hZ).warm hW, by rw [hU], by rw [hU]; exact hP, ⟨hD.1, fun _ _ h9 => Or.inl (in_map (L := (GL G)) rfl h9)⟩, fun q hq => hZ q (OA.ofD hD rfl hSz q hq)⟩⟩ rfl rfl hl.1 rfl (lv_room (Nat.le_of_ble_eq_true rfl)) dX1_flipBlock_63 ⟨Nat.le_of_ble_eq_true rfl, Nat.le_of_ble_eq_true rfl⟩) hS (OA.ofD hD rfl hSz) (fun H locs hP hD1 hS _ _ => ?_)
    have hP : va_P D vwCl (GW G t (g_names' (g_tc' (g_paved' μ r10.1) r10.2.1) r10.2.2)) H := hP
    have hD : va_D (OA (GL G) s.heap.size) (GW G t (g_names' (g_tc' (g_paved' μ r10.1) r10.2.1) r10.2.2)) := hD1.weaken (fun _ q _ h9 => OA.ofD hD rfl hSz q.1 h9)
    have hSz : s.heap.size ≤ H.size := hS.1
    refine lv_aload_n hx hb dX1_flipBlock_66 rfl (lv_at hl 1 rfl) ?_
    refine lv_iload_n hx hb dX1_flipBlock_67 rfl (lv_at hl 2 rfl) ?_
    refine lv_iload_n hx hb dX1_flipBlock_68 rfl (lv_at hl 3 rfl) ?_
    refine lv_iload hx hb dX1_flipBlock_69 (lv_at hl 0 rfl) ?_
    obtain ⟨r11, er11, h⟩ := obind h
    refine call_M (va_runV (As := [.int a1, .int a2, .int x8]) (rest := []) ⟨hx, hb, hml, hown, hts⟩ (c_X1_putTriple l z0 D t G (g_names' (g_tc' (g_paved' μ r10.1) r10.2.1) r10.2.2) a1 a2 x8 _ H.size er11) (kV hts qw820 qw787 qw788 qw8 qw789 ok_X1_putTriple ⟨Nat.le_of_ble_eq_true rfl, Nat.le_of_ble_eq_true rfl⟩) ⟨PM.blind, va_recv hK hP (ci := 2) (q0 := 0) rfl rfl, fun U hU hW => ⟨rfl, by rw [hU]; exact (hC.at hS hZ).warm hW, by rw [hU], by rw [hU]; exact hP, ⟨hD.1, fun _ _ h9 => Or.inl (in_map (L := (GL G)) rfl h9)⟩, fun q hq => hZ q (OA.ofD hD rfl hSz q hq)⟩⟩ rfl rfl hl.1 rfl (lv_room (Nat.le_of_ble_eq_true rfl)) dX1_flipBlock_71 ⟨Nat.le_of_ble_eq_true rfl, Nat.le_of_ble_eq_true rfl⟩) hS (OA.ofD hD rfl hSz) (fun H locs hP hD1 hS _ _ => ?_)
    have hP : va_P D vwCl (GW G t (g_names' (g_tc' (g_paved' μ r11.1) r11.2.1) r11.2.2)) H := hP
    have hD : va_D (OA (GL G) s.heap.size) (GW G t (g_names' (g_tc' (g_paved' μ r11.1) r11.2.1) r11.2.2)) := hD1.weaken (fun _ q _ h9 => OA.ofD hD rfl hSz q.1 h9)
    have hSz : s.heap.size ≤ H.size := hS.1
    refine lv_aload_n hx hb dX1_flipBlock_74 rfl (lv_at hl 1 rfl) ?_
    refine lv_iload_n hx hb dX1_flipBlock_75 rfl (lv_at hl 4 rfl) ?_
    obtain ⟨o12, eo12, h⟩ := obind h
    have hJ86_o12 : ∀ (ls : Array Slot) (H : Heap) (locs : List Loc), lv_has ls 7 [(0, .ref (G 0)), (2, .int a2), (3, .int a3), (6, .int x8)] → va_P D vwCl (GW G t (g_names' (g_tc' (g_paved' μ r11.1) r11.2.1) r11.2.2)) H → va_D (OA (GL G) s.heap.size) (GW G t (g_names' (g_tc' (g_paved' μ r11.1) r11.2.1) r11.2.2)) → va_S (OA (GL G) s.heap.size) s.heap H locs → W p l e (headSpec (ws_ yX1_flipBlock cX1_flipBlock 7 none) rm_X1_flipBlock).room s m ([.ref (G 0), .int a1, .int a2, .int a3] : List Value).toArray below meth c H locs 0 0 (MQ below (QM none D (GW G t (g_names' (g_flips' (g_tc' (g_paved' μ res.1) res.2.1) res.2.2.1) res.2.2.2)) (GL G) s.heap.size) ([.ref (G 0), .int a1, .int a2, .int a3] : List Value).toArray s 0 0 (OA (GL G) s.heap.size)) (F0 m 86 ls [.int o12, .ref (G 0)]) := by
      intro ls H locs hl hP hD hS
      have hSz : s.heap.size ≤ H.size := hS.1
      refine lv_iload_n hx hb dX1_flipBlock_86 rfl (lv_at hl 2 rfl) ?_
      obtain ⟨o13, eo13, h⟩ := obind h
      have hJ97_o13 : ∀ (ls : Array Slot) (H : Heap) (locs : List Loc), lv_has ls 7 [(0, .ref (G 0)), (6, .int x8)] → va_P D vwCl (GW G t (g_names' (g_tc' (g_paved' μ r11.1) r11.2.1) r11.2.2)) H → va_D (OA (GL G) s.heap.size) (GW G t (g_names' (g_tc' (g_paved' μ r11.1) r11.2.1) r11.2.2)) → va_S (OA (GL G) s.heap.size) s.heap H locs → W p l e (headSpec (ws_ yX1_flipBlock cX1_flipBlock 7 none) rm_X1_flipBlock).room s m ([.ref (G 0), .int a1, .int a2, .int a3] : List Value).toArray below meth c H locs 0 0 (MQ below (QM none D (GW G t (g_names' (g_flips' (g_tc' (g_paved' μ res.1) res.2.1) res.2.2.1) res.2.2.2)) (GL G) s.heap.size) ([.ref (G 0), .int a1, .int a2, .int a3] : List Value).toArray s 0 0 (OA (GL G) s.heap.size)) (F0 m 97 ls [.int o13, .int o12, .ref (G 0)]) := by
        intro ls H locs hl hP hD hS
        have hSz : s.heap.size ≤ H.size := hS.1
        refine lv_iload hx hb dX1_flipBlock_97 (lv_at hl 1 rfl) ?_
        refine lv_iconst (v := (2)) hx hb dX1_flipBlock_99 (by decide) ?_
        refine lv_iadd hx hb dX1_flipBlock_100 ?_
        refine lv_iconst (v := (4)) hx hb dX1_flipBlock_101 (by decide) ?_
        refine lv_irem hx hb dX1_flipBlock_102 (by decide) ?_
        obtain ⟨r14, er14, h⟩ := obind h
        refine call_M (va_runV (As := [.int o12, .int o13, .int ((x8 + (2 : Int32)) - (x8 + (2 : Int32)) / (4 : Int32) * (4 : Int32))]) (rest := []) ⟨hx, hb, hml, hown, hts⟩ (c_X1_putTriple l z0 D t G (g_names' (g_tc' (g_paved' μ r11.1) r11.2.1) r11.2.2) o12 o13 ((x8 + (2 : Int32)) - (x8 + (2 : Int32)) / (4 : Int32) * (4 : Int32)) _ H.size er14) (kV hts qw820 qw787 qw788 qw8 qw789 ok_X1_putTriple ⟨Nat.le_of_ble_eq_true rfl, Nat.le_of_ble_eq_true rfl⟩) ⟨PM.blind, va_recv hK hP (ci := 2) (q0 := 0) rfl rfl, fun U hU hW => ⟨rfl, by rw [hU]; exact (hC.at hS hZ).warm hW, by rw [hU], by rw [hU]; exact hP, ⟨hD.1, fun _ _ h9 => Or.inl (in_map (L := (GL G)) rfl h9)⟩, fun q hq => hZ q (OA.ofD hD rfl hSz q hq)⟩⟩ rfl rfl hl.1 rfl (lv_room (Nat.le_of_ble_eq_true rfl)) dX1_flipBlock_103 ⟨Nat.le_of_ble_eq_true rfl, Nat.le_of_ble_eq_true rfl⟩) hS (OA.ofD hD rfl hSz) (fun H locs hP hD1 hS _ _ => ?_)
        have hP : va_P D vwCl (GW G t (g_names' (g_tc' (g_paved' μ r14.1) r14.2.1) r14.2.2)) H := hP
        have hD : va_D (OA (GL G) s.heap.size) (GW G t (g_names' (g_tc' (g_paved' μ r14.1) r14.2.1) r14.2.2)) := hD1.weaken (fun _ q _ h9 => OA.ofD hD rfl hSz q.1 h9)
        have hSz : s.heap.size ≤ H.size := hS.1
        refine lv_aload_n hx hb dX1_flipBlock_106 rfl (lv_at hl 0 rfl) ?_
        refine lv_dup hx hb dX1_flipBlock_107 rfl ?_
        refine va_get hx hb hts inX1 hown hK hP 0 rfl rfl 6 (by decide) (hts _ qw133) (fun _ h9 => h9) rfl dX1_flipBlock_108 ?_
        refine lv_iconst (v := (1)) hx hb dX1_flipBlock_111 (by decide) ?_
        refine lv_iadd hx hb dX1_flipBlock_112 ?_
        obtain ⟨x15, ex15, h⟩ := jlet_some h
        refine topI ex15 ?_
        refine va_put (D := D) (ci := 2) (v := .int x15) (ty := .int) hx hb hts inX1 tyX1 tyX1_ok nmX1 hown hK hP hD hS 0 rfl rfl 6 (by decide) (hts _ qw133) (fun _ h9 => h9) rfl (by decide +kernel) rfl rfl (Nat.le_of_ble_eq_true rfl) dX1_flipBlock_113 (fun H locs hP hD hS => ?_)
        have hP : va_P D vwCl (GW G t (g_names' (g_flips' (g_tc' (g_paved' μ r14.1) r14.2.1) x15) r14.2.2)) H := hP
        have hD : va_D (OA (GL G) s.heap.size) (GW G t (g_names' (g_flips' (g_tc' (g_paved' μ r14.1) r14.2.1) x15) r14.2.2)) := hD
        have hSz : s.heap.size ≤ H.size := hS.1
        obtain rfl := Option.some.inj h
        exact W.vret hx hb hr (fun t ht hW => ⟨rfl, by rw [ht]; exact hP, hD, hS.F ht⟩) hS.2.2 dX1_flipBlock_116
      have h := eo13
      clear eo13
      refine lv_if_eq (tgt := 96) hx hb dX1_flipBlock_87 (by decide) (fun hc => ?_) (fun hc => ?_)
      · have h := iteT hc h
        refine lv_iload_n hx hb dX1_flipBlock_96 rfl (lv_at hl 1 rfl) ?_
        obtain rfl := Option.some.inj h
        exact hJ97_o13 ls H locs (lv_sub hl [0, 3] rfl) hP hD hS
      · have h := iteF hc h
        refine lv_iload_n hx hb dX1_flipBlock_90 rfl (lv_at hl 1 rfl) ?_
        refine lv_iconst (v := (1)) hx hb dX1_flipBlock_91 (by decide) ?_
        refine lv_iadd hx hb dX1_flipBlock_92 ?_
        refine lv_goto (tgt := 97) hx hb dX1_flipBlock_93 (by decide) ?_
        obtain rfl := Option.some.inj h
        exact hJ97_o13 ls H locs (lv_sub hl [0, 3] rfl) hP hD hS
    have h := eo12
    clear eo12
    refine lv_if_eq (tgt := 83) hx hb dX1_flipBlock_76 (by decide) (fun hc => ?_) (fun hc => ?_)
    · have h := iteT hc h
      refine lv_iload_n hx hb dX1_flipBlock_83 rfl (lv_at hl 2 rfl) ?_
      refine lv_iconst (v := (1)) hx hb dX1_flipBlock_84 (by decide) ?_
      refine lv_iadd hx hb dX1_flipBlock_85 ?_
      obtain rfl := Option.some.inj h
      exact hJ86_o12 ls H locs (lv_sub hl [1, 3, 4, 0] rfl) hP hD hS
    · have h := iteF hc h
      refine lv_iload_n hx hb dX1_flipBlock_79 rfl (lv_at hl 2 rfl) ?_
      refine lv_goto (tgt := 86) hx hb dX1_flipBlock_80 (by decide) ?_
      obtain rfl := Option.some.inj h
      exact hJ86_o12 ls H locs (lv_sub hl [1, 3, 4, 0] rfl) hP hD hS
  have h := eo5
  clear eo5
  refine lv_if_eq (tgt := 31) hx hb dX1_flipBlock_24 (by decide) (fun hc => ?_) (fun hc => ?_)
  · have h := iteT hc h
    refine lv_iconst (v := (3)) hx hb dX1_flipBlock_31 (by decide) ?_
    obtain rfl := Option.some.inj h
    exact hJ32_o5 ls H locs (lv_sub hl [2, 3, 4, 5, 1, 0] rfl) hP hD hS
  · have h := iteF hc h
    refine lv_iconst (v := (5)) hx hb dX1_flipBlock_27 (by decide) ?_
    refine lv_goto (tgt := 32) hx hb dX1_flipBlock_28 (by decide) ?_
    obtain rfl := Option.some.inj h
    exact hJ32_o5 ls H locs (lv_sub hl [2, 3, 4, 5, 1, 0] rfl) hP hD hS

abbrev rm_X2_leastTurn : Room := { frames := 3, cells := 0, slots := 0, locals := 83 }
theorem ok_X2_leastTurn : okY yX2_leastTurn 2 := ⟨by decide +kernel, by decide +kernel, by decide +kernel⟩
set_option maxHeartbeats 4000000 in
set_option maxRecDepth 100000 in
theorem c_X2_leastTurn (l : Launch) (z0 : Nat) (D : va_G) (t : Nat → ClassId) (A : Nat → Nat) (B : Nat → Nat) (μ : VS) (a1 : Int32) (a2 : Int32) (res : Int32) (h : f_X2_leastTurn μ a1 a2 = some res) : Met l yX2_leastTurn (ws_ yX2_leastTurn cX2_leastTurn 4 (some .int)) rm_X2_leastTurn (PR z0 D t [.ref (A 0), .int a1, .int a2] (VW A B t μ)) (QR (some (.int res))) 0 0 FN := by
  refine Met.ofW (cc := cX2_leastTurn) (maxL := 4) (ret := (some .int)) (by decide) rfl ?_
  intro p e s m args below meth c s₁ Bo hml hv
  obtain ⟨rfl, hC, hP⟩ := hv
  have hx := Bo.exec
  have hb := Bo.bytes
  have hr := Bo.returns
  have hts : ∀ w ∈ LA, w.before _ s = true := fun w hw => atoms_spec (ws := ws_ yX2_leastTurn cX2_leastTurn 4 (some .int)) Bo.pre w (List.mem_cons_of_mem _ hw)
  have hown : s.vm.findClass RX2 = some m.cls := findClass_of_methodNamed Bo.named
  have hlocks := Bo.notSynchronized
  have hK := hC.1
  have hl := lv_entry ([.ref (A 0), .int a1, .int a2]) (n := 4) (Nat.le_of_ble_eq_true rfl)
  rw [lg_entry_eq]
  generalize (lg_sl ([.ref (A 0), .int a1, .int a2]) ++ List.replicate (4 - (lg_sl ([.ref (A 0), .int a1, .int a2])).length) Slot.unset).toArray = ls at hl ⊢
  have hl : lv_has ls 4 [(0, .ref (A 0)), (1, .int a1), (2, .int a2)] := hl
  unfold f_X2_leastTurn at h
  refine lv_iconst (v := (0)) hx hb dX2_leastTurn_0 (by decide) ?_
  refine lv_istore_n (lv' := [(3, .int (0 : Int32)), (0, .ref (A 0)), (1, .int a1), (2, .int a2)]) hx hb dX2_leastTurn_1 rfl hl (by decide) rfl (fun ls hl => ?_)
  obtain ⟨o11, eo11, h⟩ := obind h
  have hL2 : ∀ (n : Nat) (y3_2 : Int32) (o11 : (Unit) ⊕ (Int32)), f_X2_leastTurn_L2 a1 a2 μ n y3_2 = some o11 → (∀ o11l, o11 = .inl o11l → ∀ (ls : Array Slot), lv_has ls 4 [] → W p l e (headSpec (ws_ yX2_leastTurn cX2_leastTurn 4 (some .int)) rm_X2_leastTurn).room s m ([.ref (A 0), .int a1, .int a2] : List Value).toArray below meth c s.heap [] 0 0 (MQ below (QR (some (.int res))) ([.ref (A 0), .int a1, .int a2] : List Value).toArray s 0 0 FN) (F0 m 40 ls [])) → (∀ r9, o11 = .inr r9 → r9 = res) → ∀ (ls : Array Slot), lv_has ls 4 [(0, .ref (A 0)), (1, .int a1), (2, .int a2), (3, .int y3_2)] → W p l e (headSpec (ws_ yX2_leastTurn cX2_leastTurn 4 (some .int)) rm_X2_leastTurn).room s m ([.ref (A 0), .int a1, .int a2] : List Value).toArray below meth c s.heap [] 0 0 (MQ below (QR (some (.int res))) ([.ref (A 0), .int a1, .int a2] : List Value).toArray s 0 0 FN) (F0 m 2 ls []) := by
    intro n
    induction n with
    | zero => intro y3_2 o11 h; exact absurd h (fun z => by cases z)
    | succ n ih =>
      intro y3_2 o11 h hK2 hR2 ls hl
      replace h : f_X2_leastTurn_L2_b a1 a2 μ (f_X2_leastTurn_L2 a1 a2 μ n) y3_2 = some o11 := h
      unfold f_X2_leastTurn_L2_b at h
      refine lv_iload_n hx hb dX2_leastTurn_2 rfl (lv_at hl 3 rfl) ?_
      refine lv_iconst (v := (4)) hx hb dX2_leastTurn_3 (by decide) ?_
      refine lv_icmp_ge (tgt := 40) hx hb dX2_leastTurn_4 (by decide) (fun hc => ?_) (fun hc => ?_)
      · have h := iteT hc h
        obtain rfl := Option.some.inj h
        exact hK2 _ rfl ls (lv_sub hl [] rfl)
      · have h := iteF hc h
        refine lv_aload_n hx hb dX2_leastTurn_7 rfl (lv_at hl 0 rfl) ?_
        refine lv_iload_n hx hb dX2_leastTurn_8 rfl (lv_at hl 3 rfl) ?_
        refine lv_iload_n hx hb dX2_leastTurn_9 rfl (lv_at hl 2 rfl) ?_
        obtain ⟨r12, er12, h⟩ := obind h
        refine call_R (va_runV (As := [.int y3_2, .int a2]) (rest := []) ⟨hx, hb, hml, hown, hts⟩ (c_X2_isOpen l z0 D t A ((v_takes μ), (v_u1 μ), (v_u2 μ)) y3_2 a2 _ er12) (kV hts qw322 qw324 qs6 qw6 qw325 ok_X2_isOpen ⟨Nat.le_of_ble_eq_true rfl, Nat.le_of_ble_eq_true rfl⟩) ⟨PR.blind, va_recv hK (sub_V_P (μ := μ) hP) (ci := 3) (q0 := 0) rfl rfl, fun U hU hW => ⟨rfl, by rw [hU]; exact hC.warm hW, by rw [hU]; exact (sub_V_P (μ := μ) hP)⟩⟩ rfl rfl hl.1 rfl (lv_room (Nat.le_of_ble_eq_true rfl)) dX2_leastTurn_10 ⟨Nat.le_of_ble_eq_true rfl, Nat.le_of_ble_eq_true rfl⟩) ?_
        refine lv_if_eq (tgt := 34) hx hb dX2_leastTurn_13 (by decide) (fun hc => ?_) (fun hc => ?_)
        · have h := iteT hc h
          obtain ⟨x13, ex13, h⟩ := jlet_some h
          refine lv_iinc (v := x13) (lv' := [(3, .int x13), (0, .ref (A 0)), (1, .int a1), (2, .int a2)]) hx hb dX2_leastTurn_34 hl (k := 3) rfl (by rw [ex13]; rfl) (by decide) rfl (fun ls hl => ?_)
          refine lv_goto (tgt := 2) hx hb dX2_leastTurn_37 (by decide) ?_
          exact ih _ _ h hK2 hR2 ls (lv_sub hl [1, 2, 3, 0] rfl)
        · have h := iteF hc h
          refine lv_aload_n hx hb dX2_leastTurn_16 rfl (lv_at hl 0 rfl) ?_
          refine lv_iload_n hx hb dX2_leastTurn_17 rfl (lv_at hl 1 rfl) ?_
          refine lv_iconst (v := (1)) hx hb dX2_leastTurn_18 (by decide) ?_
          refine lv_iadd hx hb dX2_leastTurn_19 ?_
          refine lv_aload_n hx hb dX2_leastTurn_20 rfl (lv_at hl 0 rfl) ?_
          refine lv_iload_n hx hb dX2_leastTurn_21 rfl (lv_at hl 3 rfl) ?_
          refine lv_iload_n hx hb dX2_leastTurn_22 rfl (lv_at hl 2 rfl) ?_
          obtain ⟨r14, er14, h⟩ := obind h
          refine call_R (va_runV (As := [.int y3_2, .int a2]) (rest := [.int (a1 + (1 : Int32)), .ref (A 0)]) ⟨hx, hb, hml, hown, hts⟩ (c_X2_windowAfter l z0 D t A ((v_takes μ), (v_u1 μ), (v_u2 μ)) y3_2 a2 _ er14) (kV hts qw326 qw328 qs7 qw6 qw329 ok_X2_windowAfter ⟨Nat.le_of_ble_eq_true rfl, Nat.le_of_ble_eq_true rfl⟩) ⟨PR.blind, va_recv hK (sub_V_P (μ := μ) hP) (ci := 3) (q0 := 0) rfl rfl, fun U hU hW => ⟨rfl, by rw [hU]; exact hC.warm hW, by rw [hU]; exact (sub_V_P (μ := μ) hP)⟩⟩ rfl rfl hl.1 rfl (lv_room (Nat.le_of_ble_eq_true rfl)) dX2_leastTurn_23 ⟨Nat.le_of_ble_eq_true rfl, Nat.le_of_ble_eq_true rfl⟩) ?_
          obtain ⟨r15, er15, h⟩ := obind h
          refine call_R (va_runV (As := [.int (a1 + (1 : Int32)), .int r14]) (rest := []) ⟨hx, hb, hml, hown, hts⟩ (c_X2_restFrom l z0 D t A B μ (a1 + (1 : Int32)) r14 _ er15) (kV hts qw408 qw410 qs14 qw6 qw411 ok_X2_restFrom ⟨Nat.le_of_ble_eq_true rfl, Nat.le_of_ble_eq_true rfl⟩) ⟨PR.blind, va_recv hK hP (ci := 3) (q0 := 0) rfl rfl, fun U hU hW => ⟨rfl, by rw [hU]; exact hC.warm hW, by rw [hU]; exact hP⟩⟩ rfl rfl hl.1 rfl (lv_room (Nat.le_of_ble_eq_true rfl)) dX2_leastTurn_26 ⟨Nat.le_of_ble_eq_true rfl, Nat.le_of_ble_eq_true rfl⟩) ?_
          refine lv_if_eq (tgt := 34) hx hb dX2_leastTurn_29 (by decide) (fun hc => ?_) (fun hc => ?_)
          · have h := iteT hc h
            obtain ⟨x16, ex16, h⟩ := jlet_some h
            refine lv_iinc (v := x16) (lv' := [(3, .int x16), (0, .ref (A 0)), (1, .int a1), (2, .int a2)]) hx hb dX2_leastTurn_34 hl (k := 3) rfl (by rw [ex16]; rfl) (by decide) rfl (fun ls hl => ?_)
            refine lv_goto (tgt := 2) hx hb dX2_leastTurn_37 (by decide) ?_
            exact ih _ _ h hK2 hR2 ls (lv_sub hl [1, 2, 3, 0] rfl)
          · have h := iteF hc h
            refine lv_iload_n hx hb dX2_leastTurn_32 rfl (lv_at hl 3 rfl) ?_
            have e9 := hR2 _ (Option.some.inj h).symm
            subst e9
            exact W.iret hx hb hr (fun t ht hW => ⟨rfl, ht⟩) (fun q hq => absurd hq List.not_mem_nil) dX2_leastTurn_33
  refine hL2 _ _ _ eo11 (fun o11l eq9 ls hl => ?_) (fun r9 eq9 => ?_) ls (lv_sub hl [1, 2, 3, 0] rfl)
  · subst eq9
    replace h := sumL h
    refine lv_iconst (v := (-1)) hx hb dX2_leastTurn_40 (by decide) ?_
    obtain rfl := Option.some.inj h
    exact W.iret hx hb hr (fun t ht hW => ⟨rfl, ht⟩) (fun q hq => absurd hq List.not_mem_nil) dX2_leastTurn_41
  · subst eq9
    replace h := sumR h
    exact Option.some.inj h
