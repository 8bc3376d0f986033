abbrev rm_J13_numberOfTrailingZeros_95d88 : Room := { frames := 1, cells := 0, slots := 0, locals := 40 }
theorem ok_J13_numberOfTrailingZeros_95d88 : okY yJ13_numberOfTrailingZeros_95d88 1 := ⟨by decide +kernel, by decide +kernel, by decide +kernel⟩
set_option maxHeartbeats 4000000 in
set_option maxRecDepth 100000 in
theorem c_J13_numberOfTrailingZeros_95d88 (l : Launch) (z0 : Nat) (D : va_G) (t : Nat → ClassId) (a1 : Int64) (res : Int32) (h : f_J13_numberOfTrailingZeros_95d88 a1 = some res) : Met l yJ13_numberOfTrailingZeros_95d88 (ws_ yJ13_numberOfTrailingZeros_95d88 cJ13_numberOfTrailingZeros_95d88 3 (some .int)) rm_J13_numberOfTrailingZeros_95d88 (PR z0 D t [.long a1] []) (QR (some (.int res))) 0 0 FN := by
  refine Met.ofW (cc := cJ13_numberOfTrailingZeros_95d88) (maxL := 3) (ret := (some .int)) (by decide) rfl ?_
  intro p e s m args below meth c s₁ Bo hml hv
  obtain ⟨rfl, hC, hP⟩ := hv
  have hx := Bo.exec
  have hb := Bo.bytes
  have hr := Bo.returns
  have hts : ∀ w ∈ LA, w.before _ s = true := fun w hw => atoms_spec (ws := ws_ yJ13_numberOfTrailingZeros_95d88 cJ13_numberOfTrailingZeros_95d88 3 (some .int)) Bo.pre w (List.mem_cons_of_mem _ hw)
  have hown : s.vm.findClass RJ13 = some m.cls := findClass_of_methodNamed Bo.named
  have hlocks := Bo.notSynchronized
  have hK := hC.1
  have hl := lv_entry ([.long a1]) (n := 3) (Nat.le_of_ble_eq_true rfl)
  rw [lg_entry_eq]
  generalize (lg_sl ([.long a1]) ++ List.replicate (3 - (lg_sl ([.long a1])).length) Slot.unset).toArray = ls at hl ⊢
  have hl : lv_has ls 3 [(0, .long a1)] := hl
  unfold f_J13_numberOfTrailingZeros_95d88 at h
  refine lv_lload_n hx hb dJ13_numberOfTrailingZeros_95d88_0 rfl (lv_at hl 0 rfl) ?_
  refine lv_l2i hx hb dJ13_numberOfTrailingZeros_95d88_1 rfl ?_
  refine lv_istore_n (lv' := [(2, .int a1.toInt32), (0, .long a1)]) hx hb dJ13_numberOfTrailingZeros_95d88_2 rfl hl (by decide) rfl (fun ls hl => ?_)
  refine lv_iload_n hx hb dJ13_numberOfTrailingZeros_95d88_3 rfl (lv_at hl 0 rfl) ?_
  refine lv_if_ne (tgt := 21) hx hb dJ13_numberOfTrailingZeros_95d88_4 (by decide) (fun hc => ?_) (fun hc => ?_)
  · have h := iteF hc h
    refine lv_iload_n hx hb dJ13_numberOfTrailingZeros_95d88_21 rfl (lv_at hl 0 rfl) ?_
    obtain ⟨r1, er1, h⟩ := obind h
    refine call_R (va_runS (As := [.int a1.toInt32]) (rest := []) ⟨hx, hb, hml, hown, hts⟩ (c_J6_numberOfTrailingZeros_0f7a4 l z0 D t a1.toInt32 _ er1) (kS hts qw288 qw289 qw23 qw290 ok_J6_numberOfTrailingZeros_0f7a4 ⟨Nat.le_of_ble_eq_true rfl, Nat.le_of_ble_eq_true rfl⟩) ⟨PR.blind, fun U hU hW => ⟨rfl, by rw [hU]; exact hC.warm hW, by rw [hU]; exact va_P_nil⟩⟩ rfl rfl hl.1 rfl (lv_room (Nat.le_of_ble_eq_true rfl)) dJ13_numberOfTrailingZeros_95d88_22 ⟨Nat.le_of_ble_eq_true rfl, Nat.le_of_ble_eq_true rfl⟩) ?_
    obtain rfl := Option.some.inj h
    exact W.iret hx hb hr (fun t ht hW => ⟨rfl, ht⟩) (fun q hq => absurd hq List.not_mem_nil) dJ13_numberOfTrailingZeros_95d88_25
  · have h := iteT hc h
    refine lv_bipush (v := (32)) hx hb dJ13_numberOfTrailingZeros_95d88_7 (by decide) ?_
    refine lv_lload_n hx hb dJ13_numberOfTrailingZeros_95d88_9 rfl (lv_at hl 1 rfl) ?_
    refine lv_bipush (v := (32)) hx hb dJ13_numberOfTrailingZeros_95d88_10 (by decide) ?_
    refine lv_lushr hx hb dJ13_numberOfTrailingZeros_95d88_12 rfl ?_
    refine lv_l2i hx hb dJ13_numberOfTrailingZeros_95d88_13 rfl ?_
    obtain ⟨r2, er2, h⟩ := obind h
    refine call_R (va_runS (As := [.int (((a1.toUInt64 >>> ((32 : Int32).toInt64.toUInt64 &&& Int64.toUInt64 63)).toInt64).toInt32)]) (rest := [.int (32 : Int32)]) ⟨hx, hb, hml, hown, hts⟩ (c_J6_numberOfTrailingZeros_0f7a4 l z0 D t (((a1.toUInt64 >>> ((32 : Int32).toInt64.toUInt64 &&& Int64.toUInt64 63)).toInt64).toInt32) _ er2) (kS hts qw288 qw289 qw23 qw290 ok_J6_numberOfTrailingZeros_0f7a4 ⟨Nat.le_of_ble_eq_true rfl, Nat.le_of_ble_eq_true rfl⟩) ⟨PR.blind, fun U hU hW => ⟨rfl, by rw [hU]; exact hC.warm hW, by rw [hU]; exact va_P_nil⟩⟩ rfl rfl hl.1 rfl (lv_room (Nat.le_of_ble_eq_true rfl)) dJ13_numberOfTrailingZeros_95d88_14 ⟨Nat.le_of_ble_eq_true rfl, Nat.le_of_ble_eq_true rfl⟩) ?_
    refine lv_iadd hx hb dJ13_numberOfTrailingZeros_95d88_17 ?_
    refine lv_goto (tgt := 25) hx hb dJ13_numberOfTrailingZeros_95d88_18 (by decide) ?_
    obtain rfl := Option.some.inj h
    exact W.iret hx hb hr (fun t ht hW => ⟨rfl, ht⟩) (fun q hq => absurd hq List.not_mem_nil) dJ13_numberOfTrailingZeros_95d88_25

abbrev rm_X4_holds : Room := { frames := 0, cells := 0, slots := 0, locals := 0 }
theorem ok_X4_holds : okY yX4_holds 2 := ⟨by decide +kernel, by decide +kernel, by decide +kernel⟩
set_option maxHeartbeats 4000000 in
set_option maxRecDepth 100000 in
theorem c_X4_holds (l : Launch) (z0 : Nat) (D : va_G) (t : Nat → ClassId) (a1 : Int64) (a2 : Int32) (res : Int32) (h : f_X4_holds a1 a2 = some res) : Met l yX4_holds (ws_ yX4_holds cX4_holds 3 (some .boolean)) rm_X4_holds (PR z0 D t [.long a1, .int a2] []) (QR (some (.int res))) 0 0 FN := by
  refine Met.ofW (cc := cX4_holds) (maxL := 3) (ret := (some .boolean)) (by decide) rfl ?_
  intro p e s m args below meth c s₁ Bo hml hv
  obtain ⟨rfl, hC, hP⟩ := hv
  have hx := Bo.exec
  have hb := Bo.bytes
  have hr := Bo.returns
  have hts : ∀ w ∈ LA, w.before _ s = true := fun w hw => atoms_spec (ws := ws_ yX4_holds cX4_holds 3 (some .boolean)) Bo.pre w (List.mem_cons_of_mem _ hw)
  have hown : s.vm.findClass RX4 = some m.cls := findClass_of_methodNamed Bo.named
  have hlocks := Bo.notSynchronized
  have hK := hC.1
  have hl := lv_entry ([.long a1, .int a2]) (n := 3) (Nat.le_of_ble_eq_true rfl)
  rw [lg_entry_eq]
  generalize (lg_sl ([.long a1, .int a2]) ++ List.replicate (3 - (lg_sl ([.long a1, .int a2])).length) Slot.unset).toArray = ls at hl ⊢
  have hl : lv_has ls 3 [(0, .long a1), (2, .int a2)] := hl
  unfold f_X4_holds at h
  refine lv_lload_n hx hb dX4_holds_0 rfl (lv_at hl 0 rfl) ?_
  refine lv_iload_n hx hb dX4_holds_1 rfl (lv_at hl 1 rfl) ?_
  refine lv_lushr hx hb dX4_holds_2 rfl ?_
  refine lv_lconst (v := (1)) hx hb dX4_holds_3 (by decide) ?_
  refine lv_land hx hb dX4_holds_4 ?_
  refine lv_lconst (v := (0)) hx hb dX4_holds_5 (by decide) ?_
  refine W.lcmp hx hb dX4_holds_6 ?_
  refine lv_if_eq (tgt := 14) hx hb dX4_holds_7 (by decide) (fun hc => ?_) (fun hc => ?_)
  · have h := iteT hc h
    refine lv_iconst (v := (0)) hx hb dX4_holds_14 (by decide) ?_
    obtain rfl := Option.some.inj h
    exact W.zret hx hb hr rfl (fun t ht hW => ⟨rfl, ht⟩) (fun q hq => absurd hq List.not_mem_nil) dX4_holds_15
  · have h := iteF hc h
    refine lv_iconst (v := (1)) hx hb dX4_holds_10 (by decide) ?_
    refine lv_goto (tgt := 15) hx hb dX4_holds_11 (by decide) ?_
    obtain rfl := Option.some.inj h
    exact W.zret hx hb hr rfl (fun t ht hW => ⟨rfl, ht⟩) (fun q hq => absurd hq List.not_mem_nil) dX4_holds_15

abbrev rm_X2_blockColumn : Room := { frames := 0, cells := 0, slots := 0, locals := 0 }
theorem ok_X2_blockColumn : okY yX2_blockColumn 2 := ⟨by decide +kernel, by decide +kernel, by decide +kernel⟩
set_option maxHeartbeats 4000000 in
set_option maxRecDepth 100000 in
theorem c_X2_blockColumn (l : Launch) (z0 : Nat) (D : va_G) (t : Nat → ClassId) (a1 : Int32) (a2 : Int32) (res : Int32) (h : f_X2_blockColumn a1 a2 = some res) : Met l yX2_blockColumn (ws_ yX2_blockColumn cX2_blockColumn 2 (some .int)) rm_X2_blockColumn (PR z0 D t [.int a1, .int a2] []) (QR (some (.int res))) 0 0 FN := by
  refine Met.ofW (cc := cX2_blockColumn) (maxL := 2) (ret := (some .int)) (by decide) rfl ?_
  intro p e s m args below meth c s₁ Bo hml hv
  obtain ⟨rfl, hC, hP⟩ := hv
  have hx := Bo.exec
  have hb := Bo.bytes
  have hr := Bo.returns
  have hts : ∀ w ∈ LA, w.before _ s = true := fun w hw => atoms_spec (ws := ws_ yX2_blockColumn cX2_blockColumn 2 (some .int)) Bo.pre w (List.mem_cons_of_mem _ hw)
  have hown : s.vm.findClass RX2 = some m.cls := findClass_of_methodNamed Bo.named
  have hlocks := Bo.notSynchronized
  have hK := hC.1
  have hl := lv_entry ([.int a1, .int a2]) (n := 2) (Nat.le_of_ble_eq_true rfl)
  rw [lg_entry_eq]
  generalize (lg_sl ([.int a1, .int a2]) ++ List.replicate (2 - (lg_sl ([.int a1, .int a2])).length) Slot.unset).toArray = ls at hl ⊢
  have hl : lv_has ls 2 [(0, .int a1), (1, .int a2)] := hl
  unfold f_X2_blockColumn at h
  refine lv_iload_n hx hb dX2_blockColumn_0 rfl (lv_at hl 1 rfl) ?_
  refine lv_if_ne (tgt := 13) hx hb dX2_blockColumn_1 (by decide) (fun hc => ?_) (fun hc => ?_)
  · have h := iteF hc h
    refine lv_iload_n hx hb dX2_blockColumn_13 rfl (lv_at hl 0 rfl) ?_
    refine lv_bipush (v := (8)) hx hb dX2_blockColumn_14 (by decide) ?_
    refine lv_irem hx hb dX2_blockColumn_16 (by decide) ?_
    obtain rfl := Option.some.inj h
    exact W.iret hx hb hr (fun t ht hW => ⟨rfl, ht⟩) (fun q hq => absurd hq List.not_mem_nil) dX2_blockColumn_17
  · have h := iteT hc h
    refine lv_iload_n hx hb dX2_blockColumn_4 rfl (lv_at hl 0 rfl) ?_
    refine lv_bipush (v := (8)) hx hb dX2_blockColumn_5 (by decide) ?_
    refine lv_irem hx hb dX2_blockColumn_7 (by decide) ?_
    refine lv_iconst (v := (1)) hx hb dX2_blockColumn_8 (by decide) ?_
    refine lv_isub hx hb dX2_blockColumn_9 ?_
    refine lv_goto (tgt := 17) hx hb dX2_blockColumn_10 (by decide) ?_
    obtain rfl := Option.some.inj h
    exact W.iret hx hb hr (fun t ht hW => ⟨rfl, ht⟩) (fun q hq => absurd hq List.not_mem_nil) dX2_blockColumn_17

abbrev rm_X4_cellsOf : Room := { frames := 0, cells := 0, slots := 0, locals := 0 }
theorem ok_X4_cellsOf : okY yX4_cellsOf 3 := ⟨by decide +kernel, by decide +kernel, by decide +kernel⟩
set_option maxHeartbeats 4000000 in
set_option maxRecDepth 100000 in
theorem c_X4_cellsOf (l : Launch) (z0 : Nat) (D : va_G) (t : Nat → ClassId) (a1 : Int32) (a2 : Int32) (a3 : Int32) (res : Int64) (h : f_X4_cellsOf a1 a2 a3 = some res) : Met l yX4_cellsOf (ws_ yX4_cellsOf cX4_cellsOf 4 (some .long)) rm_X4_cellsOf (PR z0 D t [.int a1, .int a2, .int a3] []) (QR (some (.long res))) 0 0 FN := by
  refine Met.ofW (cc := cX4_cellsOf) (maxL := 4) (ret := (some .long)) (by decide) rfl ?_
  intro p e s m args below meth c s₁ Bo hml hv
  obtain ⟨rfl, hC, hP⟩ := hv
  have hx := Bo.exec
  have hb := Bo.bytes
  have hr := Bo.returns
  have hts : ∀ w ∈ LA, w.before _ s = true := fun w hw => atoms_spec (ws := ws_ yX4_cellsOf cX4_cellsOf 4 (some .long)) Bo.pre w (List.mem_cons_of_mem _ hw)
  have hown : s.vm.findClass RX4 = some m.cls := findClass_of_methodNamed Bo.named
  have hlocks := Bo.notSynchronized
  have hK := hC.1
  have hl := lv_entry ([.int a1, .int a2, .int a3]) (n := 4) (Nat.le_of_ble_eq_true rfl)
  rw [lg_entry_eq]
  generalize (lg_sl ([.int a1, .int a2, .int a3]) ++ List.replicate (4 - (lg_sl ([.int a1, .int a2, .int a3])).length) Slot.unset).toArray = ls at hl ⊢
  have hl : lv_has ls 4 [(0, .int a1), (1, .int a2), (2, .int a3)] := hl
  unfold f_X4_cellsOf at h
  refine lv_bipush (v := (6)) hx hb dX4_cellsOf_0 (by decide) ?_
  refine lv_istore_n (lv' := [(3, .int (6 : Int32)), (0, .int a1), (1, .int a2), (2, .int a3)]) hx hb dX4_cellsOf_2 rfl hl (by decide) rfl (fun ls hl => ?_)
  refine lv_iload_n hx hb dX4_cellsOf_3 rfl (lv_at hl 1 rfl) ?_
  refine lv_if_lt (tgt := 33) hx hb dX4_cellsOf_4 (by decide) (fun hc => ?_) (fun hc => ?_)
  · have h := iteT hc h
    refine lv_lconst (v := (0)) hx hb dX4_cellsOf_33 (by decide) ?_
    obtain rfl := Option.some.inj h
    exact W.lret hx hb hr (fun t ht hW => ⟨rfl, ht⟩) (fun q hq => absurd hq List.not_mem_nil) dX4_cellsOf_34
  · have h := iteF hc h
    refine lv_iload_n hx hb dX4_cellsOf_7 rfl (lv_at hl 1 rfl) ?_
    refine lv_iload_n hx hb dX4_cellsOf_8 rfl (lv_at hl 0 rfl) ?_
    refine lv_icmp_gt (tgt := 33) hx hb dX4_cellsOf_9 (by decide) (fun hc => ?_) (fun hc => ?_)
    · have h := iteT hc h
      refine lv_lconst (v := (0)) hx hb dX4_cellsOf_33 (by decide) ?_
      obtain rfl := Option.some.inj h
      exact W.lret hx hb hr (fun t ht hW => ⟨rfl, ht⟩) (fun q hq => absurd hq List.not_mem_nil) dX4_cellsOf_34
    · have h := iteF hc h
      refine lv_iload_n hx hb dX4_cellsOf_12 rfl (lv_at hl 2 rfl) ?_
      refine lv_if_lt (tgt := 33) hx hb dX4_cellsOf_13 (by decide) (fun hc => ?_) (fun hc => ?_)
      · have h := iteT hc h
        refine lv_lconst (v := (0)) hx hb dX4_cellsOf_33 (by decide) ?_
        obtain rfl := Option.some.inj h
        exact W.lret hx hb hr (fun t ht hW => ⟨rfl, ht⟩) (fun q hq => absurd hq List.not_mem_nil) dX4_cellsOf_34
      · have h := iteF hc h
        refine lv_iload_n hx hb dX4_cellsOf_16 rfl (lv_at hl 2 rfl) ?_
        refine lv_iload_n hx hb dX4_cellsOf_17 rfl (lv_at hl 0 rfl) ?_
        refine lv_icmp_gt (tgt := 33) hx hb dX4_cellsOf_18 (by decide) (fun hc => ?_) (fun hc => ?_)
        · have h := iteT hc h
          refine lv_lconst (v := (0)) hx hb dX4_cellsOf_33 (by decide) ?_
          obtain rfl := Option.some.inj h
          exact W.lret hx hb hr (fun t ht hW => ⟨rfl, ht⟩) (fun q hq => absurd hq List.not_mem_nil) dX4_cellsOf_34
        · have h := iteF hc h
          refine lv_iload_n hx hb dX4_cellsOf_21 rfl (lv_at hl 3 rfl) ?_
          refine lv_if_lt (tgt := 33) hx hb dX4_cellsOf_22 (by decide) (fun hc => ?_) (fun hc => ?_)
          · have h := iteT hc h
            refine lv_lconst (v := (0)) hx hb dX4_cellsOf_33 (by decide) ?_
            obtain rfl := Option.some.inj h
            exact W.lret hx hb hr (fun t ht hW => ⟨rfl, ht⟩) (fun q hq => absurd hq List.not_mem_nil) dX4_cellsOf_34
          · have h := iteF hc h
            refine lv_iload_n hx hb dX4_cellsOf_25 rfl (lv_at hl 3 rfl) ?_
            obtain ⟨⟨ts, hZs, hTs⟩, -⟩ := hC.2.2.2.2.2.2
            refine va_gets hx hb hZs va_S.rf hown (hts _ qw308) (fun _ h9 => h9) dX4_cellsOf_26 ?_
            refine va_tlen hx hb hTs va_S.rf (v := 4) rfl dX4_cellsOf_29 ?_
            refine lv_icmp_lt (tgt := 35) hx hb dX4_cellsOf_30 (by decide) (fun hc => ?_) (fun hc => ?_)
            · have h := iteT hc h
              obtain ⟨⟨ts, hZs, hTs⟩, -⟩ := hC.2.2.2.2.2.2
              refine va_gets hx hb hZs va_S.rf hown (hts _ qw308) (fun _ h9 => h9) dX4_cellsOf_35 ?_
              refine lv_iload_n hx hb dX4_cellsOf_38 rfl (lv_at hl 3 rfl) ?_
              obtain ⟨v1, ev1, h⟩ := obind h
              refine va_tl hx hb hTs va_S.rf (v := .long v1) (jld_some ev1).1 (by rw [(jld_some ev1).2]) dX4_cellsOf_39 ?_
              refine lv_bipush (v := (8)) hx hb dX4_cellsOf_40 (by decide) ?_
              refine lv_iload_n hx hb dX4_cellsOf_42 rfl (lv_at hl 2 rfl) ?_
              refine lv_imul hx hb dX4_cellsOf_43 ?_
              refine lv_iload_n hx hb dX4_cellsOf_44 rfl (lv_at hl 1 rfl) ?_
              refine lv_iadd hx hb dX4_cellsOf_45 ?_
              refine lv_lshl hx hb dX4_cellsOf_46 rfl ?_
              obtain rfl := Option.some.inj h
              exact W.lret hx hb hr (fun t ht hW => ⟨rfl, ht⟩) (fun q hq => absurd hq List.not_mem_nil) dX4_cellsOf_47
            · have h := iteF hc h
              refine lv_lconst (v := (0)) hx hb dX4_cellsOf_33 (by decide) ?_
              obtain rfl := Option.some.inj h
              exact W.lret hx hb hr (fun t ht hW => ⟨rfl, ht⟩) (fun q hq => absurd hq List.not_mem_nil) dX4_cellsOf_34

abbrev rm_X2_findTakes : Room := { frames := 1, cells := 0, slots := 0, locals := 40 }
theorem ok_X2_findTakes : okY yX2_findTakes 2 := ⟨by decide +kernel, by decide +kernel, by decide +kernel⟩
set_option maxHeartbeats 4000000 in
set_option maxRecDepth 100000 in
theorem c_X2_findTakes (l : Launch) (z0 : Nat) (D : va_G) (t : Nat → ClassId) (A : Nat → Nat) (μ : PS) (a1 : Int64) (a2 : Int32) (res : (Nat → Int32)) (sz : Nat) (h : f_X2_findTakes μ a1 a2 = some res) : Met l yX2_findTakes (ws_ yX2_findTakes cX2_findTakes 8 none) rm_X2_findTakes (PM z0 D t [.ref (A 0), .long a1, .int a2] (PW A t μ) (PL A) sz) (QM none D (PW A t (p_takes' μ res)) (PL A) sz) 0 0 (OA (PL A) sz) := by
  refine Met.ofW (cc := cX2_findTakes) (maxL := 8) (ret := none) (by decide) rfl ?_
  intro p e s m args below meth c s₁ Bo hml hv
  obtain ⟨rfl, hC, hsz, hP, hD, hZ⟩ := hv
  have hx := Bo.exec
  have hb := Bo.bytes
  have hr := Bo.returns
  have hts : ∀ w ∈ LA, w.before _ s = true := fun w hw => atoms_spec (ws := ws_ yX2_findTakes cX2_findTakes 8 none) Bo.pre w (List.mem_cons_of_mem _ hw)
  have hown : s.vm.findClass RX2 = some m.cls := findClass_of_methodNamed Bo.named
  have hlocks := Bo.notSynchronized
  have hK := hC.1
  subst hsz
  have hl := lv_entry ([.ref (A 0), .long a1, .int a2]) (n := 8) (Nat.le_of_ble_eq_true rfl)
  rw [lg_entry_eq]
  generalize (lg_sl ([.ref (A 0), .long a1, .int a2]) ++ List.replicate (8 - (lg_sl ([.ref (A 0), .long a1, .int a2])).length) Slot.unset).toArray = ls at hl ⊢
  have hl : lv_has ls 8 [(0, .ref (A 0)), (1, .long a1), (3, .int a2)] := hl
  suffices K9 : ∀ (H : Heap) (locs : List Loc), va_P D vwCl (PW A t μ) H → va_S (OA (PL A) s.heap.size) s.heap H locs → W p l e (headSpec (ws_ yX2_findTakes cX2_findTakes 8 none) rm_X2_findTakes).room s m ([.ref (A 0), .long a1, .int a2] : List Value).toArray below meth c H locs 0 0 (MQ below (QM none D (PW A t (p_takes' μ res)) (PL A) s.heap.size) ([.ref (A 0), .long a1, .int a2] : List Value).toArray s 0 0 (OA (PL A) s.heap.size)) (F0 m 0 ls []) from K9 s.heap [] hP va_S.rf
  intro H locs hP hS
  have hSz : s.heap.size ≤ H.size := hS.1
  unfold f_X2_findTakes at h
  refine lv_iconst (v := (0)) hx hb dX2_findTakes_0 (by decide) ?_
  refine lv_istore (lv' := [(4, .int (0 : Int32)), (0, .ref (A 0)), (1, .long a1), (3, .int a2)]) hx hb dX2_findTakes_1 hl (by decide) rfl (fun ls hl => ?_)
  obtain ⟨o13, eo13, h⟩ := obind h
  have hL3 : ∀ (n : Nat) (y4_3 : Int32) (takes_3 : Nat → Int32) (o13 : (Nat → Int32)), f_X2_findTakes_L3 a1 a2 n y4_3 takes_3 = some o13 → (∀ (ls : Array Slot) (H : Heap) (locs : List Loc), lv_has ls 8 [] → va_P D vwCl (PW A t (p_takes' μ o13)) H → va_D (OA (PL A) s.heap.size) (PW A t (p_takes' μ o13)) → va_S (OA (PL A) s.heap.size) s.heap H locs → W p l e (headSpec (ws_ yX2_findTakes cX2_findTakes 8 none) rm_X2_findTakes).room s m ([.ref (A 0), .long a1, .int a2] : List Value).toArray below meth c H locs 0 0 (MQ below (QM none D (PW A t (p_takes' μ res)) (PL A) s.heap.size) ([.ref (A 0), .long a1, .int a2] : List Value).toArray s 0 0 (OA (PL A) s.heap.size)) (F0 m 73 ls [])) → ∀ (ls : Array Slot) (H : Heap) (locs : List Loc), lv_has ls 8 [(0, .ref (A 0)), (1, .long a1), (3, .int a2), (4, .int y4_3)] → va_P D vwCl (PW A t (p_takes' μ takes_3)) H → va_D (OA (PL A) s.heap.size) (PW A t (p_takes' μ takes_3)) → va_S (OA (PL A) s.heap.size) s.heap H locs → W p l e (headSpec (ws_ yX2_findTakes cX2_findTakes 8 none) rm_X2_findTakes).room s m ([.ref (A 0), .long a1, .int a2] : List Value).toArray below meth c H locs 0 0 (MQ below (QM none D (PW A t (p_takes' μ res)) (PL A) s.heap.size) ([.ref (A 0), .long a1, .int a2] : List Value).toArray s 0 0 (OA (PL A) s.heap.size)) (F0 m 3 ls []) := by
    intro n
    induction n with
    | zero => intro y4_3 takes_3 o13 h; exact absurd h (fun z => by cases z)
    | succ n ih =>
      intro y4_3 takes_3 o13 h hK3 ls H locs hl hP hD hS
      replace h : f_X2_findTakes_L3_b a1 a2 (f_X2_findTakes_L3 a1 a2 n) y4_3 takes_3 = some o13 := h
      unfold f_X2_findTakes_L3_b at h
      have hSz : s.heap.size ≤ H.size := hS.1
      refine lv_iload hx hb dX2_findTakes_3 (lv_at hl 3 rfl) ?_
      refine lv_iconst (v := (4)) hx hb dX2_findTakes_5 (by decide) ?_
      refine lv_icmp_ge (tgt := 73) hx hb dX2_findTakes_6 (by decide) (fun hc => ?_) (fun hc => ?_)
      · have h := iteT hc h
        obtain rfl := Option.some.inj h
        exact hK3 ls H locs (lv_sub hl [] rfl) hP hD hS
      · have h := iteF hc h
        refine lv_iload_n hx hb dX2_findTakes_9 rfl (lv_at hl 2 rfl) ?_
        refine lv_iload hx hb dX2_findTakes_10 (lv_at hl 3 rfl) ?_
        obtain ⟨r14, er14, h⟩ := obind h
        refine call_R (va_runS (As := [.int a2, .int y4_3]) (rest := []) ⟨hx, hb, hml, hown, hts⟩ (c_X2_blockColumn l z0 D t a2 y4_3 _ er14) (kS hts qw302 qw303 qw6 qw304 ok_X2_blockColumn ⟨Nat.le_of_ble_eq_true rfl, Nat.le_of_ble_eq_true rfl⟩) ⟨PR.blind, fun U hU hW => ⟨rfl, by rw [hU]; exact (hC.at hS hZ).warm hW, by rw [hU]; exact va_P_nil⟩⟩ rfl rfl hl.1 rfl (lv_room (Nat.le_of_ble_eq_true rfl)) dX2_findTakes_12 ⟨Nat.le_of_ble_eq_true rfl, Nat.le_of_ble_eq_true rfl⟩) ?_
        refine lv_iload_n hx hb dX2_findTakes_15 rfl (lv_at hl 2 rfl) ?_
        refine lv_bipush (v := (8)) hx hb dX2_findTakes_16 (by decide) ?_
        refine lv_idiv hx hb dX2_findTakes_18 (by decide) ?_
        refine lv_iload hx hb dX2_findTakes_19 (lv_at hl 3 rfl) ?_
        obtain ⟨r15, er15, h⟩ := obind h
        refine call_R (va_runSN (As := [.int r14, .int (a2 / (8 : Int32)), .int y4_3]) (rest := []) ⟨hx, hb, hml, hown, hts⟩ (c_X4_cellsOf l z0 D t r14 (a2 / (8 : Int32)) y4_3 _ er15) ⟨kN hts (hC.2.1 _ qw305) qw1 qw307 ok_X4_cellsOf ⟨Nat.le_of_ble_eq_true rfl, Nat.le_of_ble_eq_true rfl⟩, hts _ qw306, trivial⟩ ⟨PR.blind, fun U hU hW => ⟨rfl, by rw [hU]; exact (hC.at hS hZ).warm hW, by rw [hU]; exact va_P_nil⟩⟩ rfl rfl hl.1 rfl (lv_room (Nat.le_of_ble_eq_true rfl)) dX2_findTakes_21 ⟨Nat.le_of_ble_eq_true rfl, Nat.le_of_ble_eq_true rfl⟩) ?_
        refine lv_lstore (lv' := [(5, .long r15), (0, .ref (A 0)), (1, .long a1), (3, .int a2), (4, .int y4_3)]) hx hb dX2_findTakes_24 hl (by decide) rfl (fun ls hl => ?_)
        refine lv_lload hx hb dX2_findTakes_26 (lv_at hl 0 rfl) ?_
        refine lv_lload_n hx hb dX2_findTakes_28 rfl (lv_at hl 2 rfl) ?_
        refine lv_ldc2 (v := (-1)) hx hb hown (hts _ qw310) dX2_findTakes_29 ?_
        refine lv_lxor hx hb dX2_findTakes_32 ?_
        refine lv_land hx hb dX2_findTakes_33 ?_
        refine lv_lconst (v := (0)) hx hb dX2_findTakes_34 (by decide) ?_
        refine W.lcmp hx hb dX2_findTakes_35 ?_
        obtain ⟨o16, eo16, h⟩ := obind h
        have hJ44_o16 : ∀ (ls : Array Slot) (H : Heap) (locs : List Loc), lv_has ls 8 [(0, .ref (A 0)), (1, .long a1), (3, .int a2), (4, .int y4_3), (5, .long r15)] → va_P D vwCl (PW A t (p_takes' μ takes_3)) H → va_D (OA (PL A) s.heap.size) (PW A t (p_takes' μ takes_3)) → va_S (OA (PL A) s.heap.size) s.heap H locs → W p l e (headSpec (ws_ yX2_findTakes cX2_findTakes 8 none) rm_X2_findTakes).room s m ([.ref (A 0), .long a1, .int a2] : List Value).toArray below meth c H locs 0 0 (MQ below (QM none D (PW A t (p_takes' μ res)) (PL A) s.heap.size) ([.ref (A 0), .long a1, .int a2] : List Value).toArray s 0 0 (OA (PL A) s.heap.size)) (F0 m 44 ls [.int o16]) := by
          intro ls H locs hl hP hD hS
          have hSz : s.heap.size ≤ H.size := hS.1
          refine lv_istore (lv' := [(7, .int o16), (0, .ref (A 0)), (1, .long a1), (3, .int a2), (4, .int y4_3), (5, .long r15)]) hx hb dX2_findTakes_44 hl (by decide) rfl (fun ls hl => ?_)
          refine lv_aload_n hx hb dX2_findTakes_46 rfl (lv_at hl 1 rfl) ?_
          refine va_get hx hb hts inX2 hown hK hP 0 rfl rfl 1 (by decide) (hts _ qw102) (fun _ h9 => h9) rfl dX2_findTakes_47 ?_
          refine lv_iload hx hb dX2_findTakes_50 (lv_at hl 4 rfl) ?_
          refine lv_iload hx hb dX2_findTakes_52 (lv_at hl 0 rfl) ?_
          obtain ⟨o17, eo17, h⟩ := obind h
          have hJ66_o17 : ∀ (ls : Array Slot) (H : Heap) (locs : List Loc), lv_has ls 8 [(0, .ref (A 0)), (1, .long a1), (3, .int a2), (4, .int y4_3)] → va_P D vwCl (PW A t (p_takes' μ takes_3)) H → va_D (OA (PL A) s.heap.size) (PW A t (p_takes' μ takes_3)) → va_S (OA (PL A) s.heap.size) s.heap H locs → W p l e (headSpec (ws_ yX2_findTakes cX2_findTakes 8 none) rm_X2_findTakes).room s m ([.ref (A 0), .long a1, .int a2] : List Value).toArray below meth c H locs 0 0 (MQ below (QM none D (PW A t (p_takes' μ res)) (PL A) s.heap.size) ([.ref (A 0), .long a1, .int a2] : List Value).toArray s 0 0 (OA (PL A) s.heap.size)) (F0 m 66 ls [.int o17, .int y4_3, .ref (A 1)]) := by
            intro ls H locs hl hP hD hS
            have hSz : s.heap.size ≤ H.size := hS.1
            obtain ⟨f18, ef18, h⟩ := obind h
            refine k_iast (ws' := (PW A t (p_takes' μ f18))) hx hb hK hP hD hS 1 rfl ef18 rfl dX2_findTakes_66 (fun H locs hP hD hS => ?_)
            have hSz : s.heap.size ≤ H.size := hS.1
            obtain ⟨x19, ex19, h⟩ := jlet_some h
            refine lv_iinc (v := x19) (lv' := [(4, .int x19), (0, .ref (A 0)), (1, .long a1), (3, .int a2)]) hx hb dX2_findTakes_67 hl (k := 3) rfl (by rw [ex19]; rfl) (by decide) rfl (fun ls hl => ?_)
            refine lv_goto (tgt := 3) hx hb dX2_findTakes_70 (by decide) ?_
            exact ih _ _ _ h hK3 ls H locs (lv_sub hl [1, 2, 3, 0] rfl) hP hD hS
          have h := eo17
          clear eo17
          refine lv_if_eq (tgt := 65) hx hb dX2_findTakes_54 (by decide) (fun hc => ?_) (fun hc => ?_)
          · have h := iteT hc h
            refine lv_iconst (v := (0)) hx hb dX2_findTakes_65 (by decide) ?_
            obtain rfl := Option.some.inj h
            exact hJ66_o17 ls H locs (lv_sub hl [1, 2, 3, 4] rfl) hP hD hS
          · have h := iteF hc h
            refine lv_lload hx hb dX2_findTakes_57 (lv_at hl 5 rfl) ?_
            refine lv_iload_n hx hb dX2_findTakes_59 rfl (lv_at hl 3 rfl) ?_
            refine lv_lushr hx hb dX2_findTakes_60 rfl ?_
            refine lv_l2i hx hb dX2_findTakes_61 rfl ?_
            refine lv_goto (tgt := 66) hx hb dX2_findTakes_62 (by decide) ?_
            obtain rfl := Option.some.inj h
            exact hJ66_o17 ls H locs (lv_sub hl [1, 2, 3, 4] rfl) hP hD hS
        have h := eo16
        clear eo16
        refine lv_if_ne (tgt := 43) hx hb dX2_findTakes_36 (by decide) (fun hc => ?_) (fun hc => ?_)
        · have h := iteF hc h
          refine lv_iconst (v := (0)) hx hb dX2_findTakes_43 (by decide) ?_
          obtain rfl := Option.some.inj h
          exact hJ44_o16 ls H locs (lv_sub hl [1, 2, 3, 4, 0] rfl) hP hD hS
        · have h := iteT hc h
          refine lv_iconst (v := (1)) hx hb dX2_findTakes_39 (by decide) ?_
          refine lv_goto (tgt := 44) hx hb dX2_findTakes_40 (by decide) ?_
          obtain rfl := Option.some.inj h
          exact hJ44_o16 ls H locs (lv_sub hl [1, 2, 3, 4, 0] rfl) hP hD hS
  refine hL3 _ _ _ _ eo13 (fun ls H locs hl hP hD hS => ?_) ls H locs (lv_sub hl [1, 2, 3, 0] rfl) hP hD hS
  have hSz : s.heap.size ≤ H.size := hS.1
  obtain rfl := Option.some.inj h
  exact W.vret hx hb hr (fun t ht hW => ⟨rfl, by rw [ht]; exact hP, hD, hS.F ht⟩) hS.2.2 dX2_findTakes_73

abbrev rm_X2_isOpen : Room := { frames := 0, cells := 0, slots := 0, locals := 0 }
theorem ok_X2_isOpen : okY yX2_isOpen 2 := ⟨by decide +kernel, by decide +kernel, by decide +kernel⟩
set_option maxHeartbeats 4000000 in
set_option maxRecDepth 100000 in
theorem c_X2_isOpen (l : Launch) (z0 : Nat) (D : va_G) (t : Nat → ClassId) (A : Nat → Nat) (μ : PS) (a1 : Int32) (a2 : Int32) (res : Int32) (h : f_X2_isOpen μ a1 a2 = some res) : Met l yX2_isOpen (ws_ yX2_isOpen cX2_isOpen 3 (some .boolean)) rm_X2_isOpen (PR z0 D t [.ref (A 0), .int a1, .int a2] (PW A t μ)) (QR (some (.int res))) 0 0 FN := by
  refine Met.ofW (cc := cX2_isOpen) (maxL := 3) (ret := (some .boolean)) (by decide) rfl ?_
  intro p e s m args below meth c s₁ Bo hml hv
  obtain ⟨rfl, hC, hP⟩ := hv
  have hx := Bo.exec
  have hb := Bo.bytes
  have hr := Bo.returns
  have hts : ∀ w ∈ LA, w.before _ s = true := fun w hw => atoms_spec (ws := ws_ yX2_isOpen cX2_isOpen 3 (some .boolean)) Bo.pre w (List.mem_cons_of_mem _ hw)
  have hown : s.vm.findClass RX2 = some m.cls := findClass_of_methodNamed Bo.named
  have hlocks := Bo.notSynchronized
  have hK := hC.1
  have hl := lv_entry ([.ref (A 0), .int a1, .int a2]) (n := 3) (Nat.le_of_ble_eq_true rfl)
  rw [lg_entry_eq]
  generalize (lg_sl ([.ref (A 0), .int a1, .int a2]) ++ List.replicate (3 - (lg_sl ([.ref (A 0), .int a1, .int a2])).length) Slot.unset).toArray = ls at hl ⊢
  have hl : lv_has ls 3 [(0, .ref (A 0)), (1, .int a1), (2, .int a2)] := hl
  unfold f_X2_isOpen at h
  refine lv_aload_n hx hb dX2_isOpen_0 rfl (lv_at hl 0 rfl) ?_
  refine va_get hx hb hts inX2 hown hK hP 0 rfl rfl 1 (by decide) (hts _ qw102) (fun _ h9 => h9) rfl dX2_isOpen_1 ?_
  refine lv_iload_n hx hb dX2_isOpen_4 rfl (lv_at hl 1 rfl) ?_
  obtain ⟨v1, ev1, h⟩ := obind h
  refine k_iald hx hb hK hP 1 rfl ev1 dX2_isOpen_5 ?_
  refine lv_if_eq (tgt := 24) hx hb dX2_isOpen_6 (by decide) (fun hc => ?_) (fun hc => ?_)
  · have h := iteT hc h
    refine lv_iconst (v := (0)) hx hb dX2_isOpen_24 (by decide) ?_
    obtain rfl := Option.some.inj h
    exact W.zret hx hb hr rfl (fun t ht hW => ⟨rfl, ht⟩) (fun q hq => absurd hq List.not_mem_nil) dX2_isOpen_25
  · have h := iteF hc h
    refine lv_aload_n hx hb dX2_isOpen_9 rfl (lv_at hl 0 rfl) ?_
    refine va_get hx hb hts inX2 hown hK hP 0 rfl rfl 1 (by decide) (hts _ qw102) (fun _ h9 => h9) rfl dX2_isOpen_10 ?_
    refine lv_iload_n hx hb dX2_isOpen_13 rfl (lv_at hl 1 rfl) ?_
    obtain ⟨v2, ev2, h⟩ := obind h
    refine k_iald hx hb hK hP 1 rfl ev2 dX2_isOpen_14 ?_
    refine lv_iload_n hx hb dX2_isOpen_15 rfl (lv_at hl 2 rfl) ?_
    refine lv_iand hx hb dX2_isOpen_16 ?_
    refine lv_if_ne (tgt := 24) hx hb dX2_isOpen_17 (by decide) (fun hc => ?_) (fun hc => ?_)
    · have h := iteF hc h
      refine lv_iconst (v := (0)) hx hb dX2_isOpen_24 (by decide) ?_
      obtain rfl := Option.some.inj h
      exact W.zret hx hb hr rfl (fun t ht hW => ⟨rfl, ht⟩) (fun q hq => absurd hq List.not_mem_nil) dX2_isOpen_25
    · have h := iteT hc h
      refine lv_iconst (v := (1)) hx hb dX2_isOpen_20 (by decide) ?_
      refine lv_goto (tgt := 25) hx hb dX2_isOpen_21 (by decide) ?_
      obtain rfl := Option.some.inj h
      exact W.zret hx hb hr rfl (fun t ht hW => ⟨rfl, ht⟩) (fun q hq => absurd hq List.not_mem_nil) dX2_isOpen_25

abbrev rm_X2_windowAfter : Room := { frames := 0, cells := 0, slots := 0, locals := 0 }
theorem ok_X2_windowAfter : okY yX2_windowAfter 2 := ⟨by decide +kernel, by decide +kernel, by decide +kernel⟩
set_option maxHeartbeats 4000000 in
set_option maxRecDepth 100000 in
theorem c_X2_windowAfter (l : Launch) (z0 : Nat) (D : va_G) (t : Nat → ClassId) (A : Nat → Nat) (μ : PS) (a1 : Int32) (a2 : Int32) (res : Int32) (h : f_X2_windowAfter μ a1 a2 = some res) : Met l yX2_windowAfter (ws_ yX2_windowAfter cX2_windowAfter 3 (some .int)) rm_X2_windowAfter (PR z0 D t [.ref (A 0), .int a1, .int a2] (PW A t μ)) (QR (some (.int res))) 0 0 FN := by
  refine Met.ofW (cc := cX2_windowAfter) (maxL := 3) (ret := (some .int)) (by decide) rfl ?_
  intro p e s m args below meth c s₁ Bo hml hv
  obtain ⟨rfl, hC, hP⟩ := hv
  have hx := Bo.exec
  have hb := Bo.bytes
  have hr := Bo.returns
  have hts : ∀ w ∈ LA, w.before _ s = true := fun w hw => atoms_spec (ws := ws_ yX2_windowAfter cX2_windowAfter 3 (some .int)) Bo.pre w (List.mem_cons_of_mem _ hw)
  have hown : s.vm.findClass RX2 = some m.cls := findClass_of_methodNamed Bo.named
  have hlocks := Bo.notSynchronized
  have hK := hC.1
  have hl := lv_entry ([.ref (A 0), .int a1, .int a2]) (n := 3) (Nat.le_of_ble_eq_true rfl)
  rw [lg_entry_eq]
  generalize (lg_sl ([.ref (A 0), .int a1, .int a2]) ++ List.replicate (3 - (lg_sl ([.ref (A 0), .int a1, .int a2])).length) Slot.unset).toArray = ls at hl ⊢
  have hl : lv_has ls 3 [(0, .ref (A 0)), (1, .int a1), (2, .int a2)] := hl
  unfold f_X2_windowAfter at h
  refine lv_aload_n hx hb dX2_windowAfter_0 rfl (lv_at hl 0 rfl) ?_
  refine va_get hx hb hts inX2 hown hK hP 0 rfl rfl 1 (by decide) (hts _ qw102) (fun _ h9 => h9) rfl dX2_windowAfter_1 ?_
  refine lv_iload_n hx hb dX2_windowAfter_4 rfl (lv_at hl 1 rfl) ?_
  obtain ⟨v1, ev1, h⟩ := obind h
  refine k_iald hx hb hK hP 1 rfl ev1 dX2_windowAfter_5 ?_
  refine lv_iload_n hx hb dX2_windowAfter_6 rfl (lv_at hl 2 rfl) ?_
  refine lv_ior hx hb dX2_windowAfter_7 ?_
  refine lv_iconst (v := (1)) hx hb dX2_windowAfter_8 (by decide) ?_
  refine lv_ishr hx hb dX2_windowAfter_9 ?_
  refine lv_sipush (v := (511)) hx hb dX2_windowAfter_10 (by decide) ?_
  refine lv_iand hx hb dX2_windowAfter_13 ?_
  obtain rfl := Option.some.inj h
  exact W.iret hx hb hr (fun t ht hW => ⟨rfl, ht⟩) (fun q hq => absurd hq List.not_mem_nil) dX2_windowAfter_14

abbrev rm_X6_waysTo : Room := { frames := 0, cells := 0, slots := 0, locals := 0 }
theorem ok_X6_waysTo : okY yX6_waysTo 1 := ⟨by decide +kernel, by decide +kernel, by decide +kernel⟩
set_option maxHeartbeats 4000000 in
set_option maxRecDepth 100000 in
theorem c_X6_waysTo (l : Launch) (z0 : Nat) (D : va_G) (t : Nat → ClassId) (r : Nat → Nat) (μ : RES) (a1 : Int32) (res : Int32) (h : f_X6_waysTo μ a1 = some res) : Met l yX6_waysTo (ws_ yX6_waysTo cX6_waysTo 2 (some .int)) rm_X6_waysTo (PR z0 D t [.ref (r 0), .int a1] (REW r t μ)) (QR (some (.int res))) 0 0 FN := by
  refine Met.ofW (cc := cX6_waysTo) (maxL := 2) (ret := (some .int)) (by decide) rfl ?_
  intro p e s m args below meth c s₁ Bo hml hv
  obtain ⟨rfl, hC, hP⟩ := hv
  have hx := Bo.exec
  have hb := Bo.bytes
  have hr := Bo.returns
  have hts : ∀ w ∈ LA, w.before _ s = true := fun w hw => atoms_spec (ws := ws_ yX6_waysTo cX6_waysTo 2 (some .int)) Bo.pre w (List.mem_cons_of_mem _ hw)
  have hown : s.vm.findClass RX6 = some m.cls := findClass_of_methodNamed Bo.named
  have hlocks := Bo.notSynchronized
  have hK := hC.1
  have hl := lv_entry ([.ref (r 0), .int a1]) (n := 2) (Nat.le_of_ble_eq_true rfl)
  rw [lg_entry_eq]
  generalize (lg_sl ([.ref (r 0), .int a1]) ++ List.replicate (2 - (lg_sl ([.ref (r 0), .int a1])).length) Slot.unset).toArray = ls at hl ⊢
  have hl : lv_has ls 2 [(0, .ref (r 0)), (1, .int a1)] := hl
  unfold f_X6_waysTo at h
  refine lv_iload_n hx hb dX6_waysTo_0 rfl (lv_at hl 1 rfl) ?_
  refine lv_if_lt (tgt := 22) hx hb dX6_waysTo_1 (by decide) (fun hc => ?_) (fun hc => ?_)
  · have h := iteT hc h
    refine lv_iconst (v := (0)) hx hb dX6_waysTo_22 (by decide) ?_
    obtain rfl := Option.some.inj h
    exact W.iret hx hb hr (fun t ht hW => ⟨rfl, ht⟩) (fun q hq => absurd hq List.not_mem_nil) dX6_waysTo_23
  · have h := iteF hc h
    refine lv_iload_n hx hb dX6_waysTo_4 rfl (lv_at hl 1 rfl) ?_
    refine lv_aload_n hx hb dX6_waysTo_5 rfl (lv_at hl 0 rfl) ?_
    refine va_get hx hb hts inX6 hown hK hP 0 rfl rfl 2 (by decide) (hts _ qw93) (fun _ h9 => h9) rfl dX6_waysTo_6 ?_
    refine va_alen hx hb hK hP 2 0 rfl rfl (v := 512) rfl dX6_waysTo_9 ?_
    refine lv_icmp_ge (tgt := 22) hx hb dX6_waysTo_10 (by decide) (fun hc => ?_) (fun hc => ?_)
    · have h := iteT hc h
      refine lv_iconst (v := (0)) hx hb dX6_waysTo_22 (by decide) ?_
      obtain rfl := Option.some.inj h
      exact W.iret hx hb hr (fun t ht hW => ⟨rfl, ht⟩) (fun q hq => absurd hq List.not_mem_nil) dX6_waysTo_23
    · have h := iteF hc h
      refine lv_aload_n hx hb dX6_waysTo_13 rfl (lv_at hl 0 rfl) ?_
      refine va_get hx hb hts inX6 hown hK hP 0 rfl rfl 2 (by decide) (hts _ qw93) (fun _ h9 => h9) rfl dX6_waysTo_14 ?_
      refine lv_iload_n hx hb dX6_waysTo_17 rfl (lv_at hl 1 rfl) ?_
      obtain ⟨v1, ev1, h⟩ := obind h
      refine k_iald hx hb hK hP 2 rfl ev1 dX6_waysTo_18 ?_
      refine lv_goto (tgt := 23) hx hb dX6_waysTo_19 (by decide) ?_
      obtain rfl := Option.some.inj h
      exact W.iret hx hb hr (fun t ht hW => ⟨rfl, ht⟩) (fun q hq => absurd hq List.not_mem_nil) dX6_waysTo_23

abbrev rm_X2_goOnByTurns : Room := { frames := 1, cells := 0, slots := 0, locals := 22 }
theorem ok_X2_goOnByTurns : okY yX2_goOnByTurns 1 := ⟨by decide +kernel, by decide +kernel, by decide +kernel⟩
set_option maxHeartbeats 4000000 in
set_option maxRecDepth 100000 in
theorem c_X2_goOnByTurns (l : Launch) (z0 : Nat) (D : va_G) (t : Nat → ClassId) (A : Nat → Nat) (B : Nat → Nat) (μ : VS) (a1 : Int32) (res : (Int32) × (Nat → Int32) × (Nat → Int32)) (sz : Nat) (h : f_X2_goOnByTurns μ a1 = some res) : Met l yX2_goOnByTurns (ws_ yX2_goOnByTurns cX2_goOnByTurns 3 none) rm_X2_goOnByTurns (PM z0 D t [.ref (A 0), .int a1] (VW A B t μ) (VL A B μ) sz) (QM none D (VW A B t (v_nway' (v_nwin' (v_nsz' μ res.1) res.2.1) res.2.2)) (VL A B μ) sz) 0 0 (OA (VL A B μ) sz) := by
  refine Met.ofW (cc := cX2_goOnByTurns) (maxL := 3) (ret := none) (by decide) rfl ?_
  intro p e s m args below meth c s₁ Bo hml hv
  obtain ⟨rfl, hC, hsz, hP, hD, hZ⟩ := hv
  have hx := Bo.exec
  have hb := Bo.bytes
  have hr := Bo.returns
  have hts : ∀ w ∈ LA, w.before _ s = true := fun w hw => atoms_spec (ws := ws_ yX2_goOnByTurns cX2_goOnByTurns 3 none) Bo.pre w (List.mem_cons_of_mem _ hw)
  have hown : s.vm.findClass RX2 = some m.cls := findClass_of_methodNamed Bo.named
  have hlocks := Bo.notSynchronized
  have hK := hC.1
  subst hsz
  have hl := lv_entry ([.ref (A 0), .int a1]) (n := 3) (Nat.le_of_ble_eq_true rfl)
  rw [lg_entry_eq]
  generalize (lg_sl ([.ref (A 0), .int a1]) ++ List.replicate (3 - (lg_sl ([.ref (A 0), .int a1])).length) Slot.unset).toArray = ls at hl ⊢
  have hl : lv_has ls 3 [(0, .ref (A 0)), (1, .int a1)] := hl
  suffices K9 : ∀ (H : Heap) (locs : List Loc), va_P D vwCl (VW A B t μ) H → va_S (OA (VL A B μ) s.heap.size) s.heap H locs → W p l e (headSpec (ws_ yX2_goOnByTurns cX2_goOnByTurns 3 none) rm_X2_goOnByTurns).room s m ([.ref (A 0), .int a1] : List Value).toArray below meth c H locs 0 0 (MQ below (QM none D (VW A B t (v_nway' (v_nwin' (v_nsz' μ res.1) res.2.1) res.2.2)) (VL A B μ) s.heap.size) ([.ref (A 0), .int a1] : List Value).toArray s 0 0 (OA (VL A B μ) s.heap.size)) (F0 m 0 ls []) from K9 s.heap [] hP va_S.rf
  intro H locs hP hS
  have hSz : s.heap.size ≤ H.size := hS.1
  unfold f_X2_goOnByTurns at h
  refine lv_iconst (v := (0)) hx hb dX2_goOnByTurns_0 (by decide) ?_
  refine lv_istore_n (lv' := [(2, .int (0 : Int32)), (0, .ref (A 0)), (1, .int a1)]) hx hb dX2_goOnByTurns_1 rfl hl (by decide) rfl (fun ls hl => ?_)
  obtain ⟨o19, eo19, h⟩ := obind h
  have hL2 : ∀ (n : Nat) (y2_2 : Int32) (nsz_2 : Int32) (nwin_2 : Nat → Int32) (nway_2 : Nat → Int32) (o19 : (Int32) × (Nat → Int32) × (Nat → Int32)), f_X2_goOnByTurns_L2 a1 μ n y2_2 nsz_2 nwin_2 nway_2 = some o19 → (∀ (ls : Array Slot) (H : Heap) (locs : List Loc), lv_has ls 3 [] → va_P D vwCl (VW A B t (v_nway' (v_nwin' (v_nsz' μ o19.1) o19.2.1) o19.2.2)) H → va_D (OA (VL A B μ) s.heap.size) (VW A B t (v_nway' (v_nwin' (v_nsz' μ o19.1) o19.2.1) o19.2.2)) → va_S (OA (VL A B μ) s.heap.size) s.heap H locs → W p l e (headSpec (ws_ yX2_goOnByTurns cX2_goOnByTurns 3 none) rm_X2_goOnByTurns).room s m ([.ref (A 0), .int a1] : List Value).toArray below meth c H locs 0 0 (MQ below (QM none D (VW A B t (v_nway' (v_nwin' (v_nsz' μ res.1) res.2.1) res.2.2)) (VL A B μ) s.heap.size) ([.ref (A 0), .int a1] : List Value).toArray s 0 0 (OA (VL A B μ) s.heap.size)) (F0 m 43 ls [])) → ∀ (ls : Array Slot) (H : Heap) (locs : List Loc), lv_has ls 3 [(0, .ref (A 0)), (1, .int a1), (2, .int y2_2)] → va_P D vwCl (VW A B t (v_nway' (v_nwin' (v_nsz' μ nsz_2) nwin_2) nway_2)) H → va_D (OA (VL A B μ) s.heap.size) (VW A B t (v_nway' (v_nwin' (v_nsz' μ nsz_2) nwin_2) nway_2)) → va_S (OA (VL A B μ) s.heap.size) s.heap H locs → W p l e (headSpec (ws_ yX2_goOnByTurns cX2_goOnByTurns 3 none) rm_X2_goOnByTurns).room s m ([.ref (A 0), .int a1] : List Value).toArray below meth c H locs 0 0 (MQ below (QM none D (VW A B t (v_nway' (v_nwin' (v_nsz' μ res.1) res.2.1) res.2.2)) (VL A B μ) s.heap.size) ([.ref (A 0), .int a1] : List Value).toArray s 0 0 (OA (VL A B μ) s.heap.size)) (F0 m 2 ls []) := by
    intro n
    induction n with
    | zero => intro y2_2 nsz_2 nwin_2 nway_2 o19 h; exact absurd h (fun z => by cases z)
    | succ n ih =>
      intro y2_2 nsz_2 nwin_2 nway_2 o19 h hK2 ls H locs hl hP hD hS
      replace h : f_X2_goOnByTurns_L2_b a1 μ (f_X2_goOnByTurns_L2 a1 μ n) y2_2 nsz_2 nwin_2 nway_2 = some o19 := h
      unfold f_X2_goOnByTurns_L2_b at h
      have hSz : s.heap.size ≤ H.size := hS.1
      refine lv_iload_n hx hb dX2_goOnByTurns_2 rfl (lv_at hl 2 rfl) ?_
      refine lv_iconst (v := (4)) hx hb dX2_goOnByTurns_3 (by decide) ?_
      refine lv_icmp_ge (tgt := 43) hx hb dX2_goOnByTurns_4 (by decide) (fun hc => ?_) (fun hc => ?_)
      · have h := iteT hc h
        obtain rfl := Option.some.inj h
        exact hK2 ls H locs (lv_sub hl [] rfl) hP hD hS
      · have h := iteF hc h
        refine lv_aload_n hx hb dX2_goOnByTurns_7 rfl (lv_at hl 0 rfl) ?_
        refine lv_iload_n hx hb dX2_goOnByTurns_8 rfl (lv_at hl 2 rfl) ?_
        refine lv_iload_n hx hb dX2_goOnByTurns_9 rfl (lv_at hl 1 rfl) ?_
        obtain ⟨r20, er20, h⟩ := obind h
        refine call_R (va_runV (As := [.int y2_2, .int a1]) (rest := []) ⟨hx, hb, hml, hown, hts⟩ (c_X2_isOpen l z0 D t A ((v_takes μ), (v_u1 μ), (v_u2 μ)) y2_2 a1 _ er20) (kV hts qw316 qw318 qs6 qw6 qw319 ok_X2_isOpen ⟨Nat.le_of_ble_eq_true rfl, Nat.le_of_ble_eq_true rfl⟩) ⟨PR.blind, va_recv hK (sub_V_P (μ := v_nway' (v_nwin' (v_nsz' μ nsz_2) nwin_2) nway_2) hP) (ci := 3) (q0 := 0) rfl rfl, fun U hU hW => ⟨rfl, by rw [hU]; exact (hC.at hS hZ).warm hW, by rw [hU]; exact (sub_V_P (μ := v_nway' (v_nwin' (v_nsz' μ nsz_2) nwin_2) nway_2) hP)⟩⟩ rfl rfl hl.1 rfl (lv_room (Nat.le_of_ble_eq_true rfl)) dX2_goOnByTurns_10 ⟨Nat.le_of_ble_eq_true rfl, Nat.le_of_ble_eq_true rfl⟩) ?_
        obtain ⟨o24, eo24, h⟩ := obind h
        have hJ37_o24 : ∀ (ls : Array Slot) (H : Heap) (locs : List Loc), lv_has ls 3 [(0, .ref (A 0)), (1, .int a1), (2, .int y2_2)] → va_P D vwCl (VW A B t (v_nway' (v_nwin' (v_nsz' μ o24.1) o24.2.1) o24.2.2)) H → va_D (OA (VL A B μ) s.heap.size) (VW A B t (v_nway' (v_nwin' (v_nsz' μ o24.1) o24.2.1) o24.2.2)) → va_S (OA (VL A B μ) s.heap.size) s.heap H locs → W p l e (headSpec (ws_ yX2_goOnByTurns cX2_goOnByTurns 3 none) rm_X2_goOnByTurns).room s m ([.ref (A 0), .int a1] : List Value).toArray below meth c H locs 0 0 (MQ below (QM none D (VW A B t (v_nway' (v_nwin' (v_nsz' μ res.1) res.2.1) res.2.2)) (VL A B μ) s.heap.size) ([.ref (A 0), .int a1] : List Value).toArray s 0 0 (OA (VL A B μ) s.heap.size)) (F0 m 37 ls []) := by
          intro ls H locs hl hP hD hS
          have hSz : s.heap.size ≤ H.size := hS.1
          obtain ⟨x28, ex28, h⟩ := jlet_some h
          refine lv_iinc (v := x28) (lv' := [(2, .int x28), (0, .ref (A 0)), (1, .int a1)]) hx hb dX2_goOnByTurns_37 hl (k := 2) rfl (by rw [ex28]; rfl) (by decide) rfl (fun ls hl => ?_)
          refine lv_goto (tgt := 2) hx hb dX2_goOnByTurns_40 (by decide) ?_
          exact ih _ _ _ _ _ h hK2 ls H locs (lv_sub hl [1, 2, 0] rfl) hP hD hS
        have h := eo24
        clear eo24
        refine lv_if_eq (tgt := 37) hx hb dX2_goOnByTurns_13 (by decide) (fun hc => ?_) (fun hc => ?_)
        · have h := iteT hc h
          obtain rfl := Option.some.inj h
          exact hJ37_o24 ls H locs (lv_sub hl [0, 1, 2] rfl) hP hD hS
        · have h := iteF hc h
          refine lv_aload_n hx hb dX2_goOnByTurns_16 rfl (lv_at hl 0 rfl) ?_
          refine va_get hx hb hts inX2 hown hK hP 0 rfl rfl 3 (by decide) (hts _ qw104) (fun _ h9 => h9) rfl dX2_goOnByTurns_17 ?_
          refine lv_aload_n hx hb dX2_goOnByTurns_20 rfl (lv_at hl 0 rfl) ?_
          refine lv_iload_n hx hb dX2_goOnByTurns_21 rfl (lv_at hl 2 rfl) ?_
          refine lv_iload_n hx hb dX2_goOnByTurns_22 rfl (lv_at hl 1 rfl) ?_
          obtain ⟨r25, er25, h⟩ := obind h
          refine call_R (va_runV (As := [.int y2_2, .int a1]) (rest := [.ref ((v_u2 μ) 0)]) ⟨hx, hb, hml, hown, hts⟩ (c_X2_windowAfter l z0 D t A ((v_takes μ), (v_u1 μ), (v_u2 μ)) y2_2 a1 _ er25) (kV hts qw320 qw322 qs7 qw6 qw323 ok_X2_windowAfter ⟨Nat.le_of_ble_eq_true rfl, Nat.le_of_ble_eq_true rfl⟩) ⟨PR.blind, va_recv hK (sub_V_P (μ := v_nway' (v_nwin' (v_nsz' μ nsz_2) nwin_2) nway_2) hP) (ci := 3) (q0 := 0) rfl rfl, fun U hU hW => ⟨rfl, by rw [hU]; exact (hC.at hS hZ).warm hW, by rw [hU]; exact (sub_V_P (μ := v_nway' (v_nwin' (v_nsz' μ nsz_2) nwin_2) nway_2) hP)⟩⟩ rfl rfl hl.1 rfl (lv_room (Nat.le_of_ble_eq_true rfl)) dX2_goOnByTurns_23 ⟨Nat.le_of_ble_eq_true rfl, Nat.le_of_ble_eq_true rfl⟩) ?_
          refine lv_aload_n hx hb dX2_goOnByTurns_26 rfl (lv_at hl 0 rfl) ?_
          refine va_get hx hb hts inX2 hown hK hP 0 rfl rfl 2 (by decide) (hts _ qw103) (fun _ h9 => h9) rfl dX2_goOnByTurns_27 ?_
          refine lv_iload_n hx hb dX2_goOnByTurns_30 rfl (lv_at hl 1 rfl) ?_
          obtain ⟨r26, er26, h⟩ := obind h
          refine call_R (va_runV (As := [.int a1]) (rest := [.int r25, .ref ((v_u2 μ) 0)]) ⟨hx, hb, hml, hown, hts⟩ (c_X6_waysTo l z0 D t (v_u1 μ) ((v_hsz μ), (v_hwin μ), (v_hway μ)) a1 _ er26) (kV hts qw324 qw325 qw326 qw7 qw327 ok_X6_waysTo ⟨Nat.le_of_ble_eq_true rfl, Nat.le_of_ble_eq_true rfl⟩) ⟨PR.blind, va_recv hK (sub_V_RE_h (μ := v_nway' (v_nwin' (v_nsz' μ nsz_2) nwin_2) nway_2) hP) (ci := 6) (q0 := 0) rfl rfl, fun U hU hW => ⟨rfl, by rw [hU]; exact (hC.at hS hZ).warm hW, by rw [hU]; exact (sub_V_RE_h (μ := v_nway' (v_nwin' (v_nsz' μ nsz_2) nwin_2) nway_2) hP)⟩⟩ rfl rfl hl.1 rfl (lv_room (Nat.le_of_ble_eq_true rfl)) dX2_goOnByTurns_31 ⟨Nat.le_of_ble_eq_true rfl, Nat.le_of_ble_eq_true rfl⟩) ?_
          obtain ⟨r27, er27, h⟩ := obind h
          refine call_M (va_runV (As := [.int r25, .int r26]) (rest := []) ⟨hx, hb, hml, hown, hts⟩ (c_X6_add l z0 D t (v_u2 μ) (nsz_2, nwin_2, nway_2) r25 r26 _ H.size er27) (kV hts qw271 qw272 qw273 qw7 qw274 ok_X6_add ⟨Nat.le_of_ble_eq_true rfl, Nat.le_of_ble_eq_true rfl⟩) ⟨PM.blind, va_recv hK (sub_V_RE_n (μ := v_nway' (v_nwin' (v_nsz' μ nsz_2) nwin_2) nway_2) hP) (ci := 6) (q0 := 0) rfl rfl, fun U hU hW => ⟨rfl, by rw [hU]; exact (hC.at hS hZ).warm hW, by rw [hU], by rw [hU]; exact (sub_V_RE_n (μ := v_nway' (v_nwin' (v_nsz' μ nsz_2) nwin_2) nway_2) hP), ⟨(subD_V_RE_n (μ := v_nway' (v_nwin' (v_nsz' μ nsz_2) nwin_2) nway_2) hD).1, fun _ _ h9 => Or.inl (in_map (L := (REL (v_u2 μ))) rfl h9)⟩, fun q hq => hZ q (OA.ofD (subD_V_RE_n (μ := v_nway' (v_nwin' (v_nsz' μ nsz_2) nwin_2) nway_2) hD) rfl hSz q hq)⟩⟩ rfl rfl hl.1 rfl (lv_room (Nat.le_of_ble_eq_true rfl)) dX2_goOnByTurns_34 ⟨Nat.le_of_ble_eq_true rfl, Nat.le_of_ble_eq_true rfl⟩) hS (OA.ofD (subD_V_RE_n (μ := v_nway' (v_nwin' (v_nsz' μ nsz_2) nwin_2) nway_2) hD) rfl hSz) (fun H locs hP1 hD1 hS _ hk1 => ?_)
          obtain ⟨hP, hD⟩ := back_V_RE_n (μ := v_nway' (v_nwin' (v_nsz' μ nsz_2) nwin_2) nway_2) hP hD hk1 hP1
          have hP : va_P D vwCl (VW A B t (v_nway' (v_nwin' (v_nsz' μ r27.1) r27.2.1) r27.2.2)) H := hP
          have hD : va_D (OA (VL A B μ) s.heap.size) (VW A B t (v_nway' (v_nwin' (v_nsz' μ r27.1) r27.2.1) r27.2.2)) := hD
          have hSz : s.heap.size ≤ H.size := hS.1
          obtain rfl := Option.some.inj h
          exact hJ37_o24 ls H locs (lv_sub hl [0, 1, 2] rfl) hP hD hS
  refine hL2 _ _ _ _ _ _ eo19 (fun ls H locs hl hP hD hS => ?_) ls H locs (lv_sub hl [1, 2, 0] rfl) hP hD hS
  have hSz : s.heap.size ≤ H.size := hS.1
  obtain rfl := Option.some.inj h
  exact W.vret hx hb hr (fun t ht hW => ⟨rfl, by rw [ht]; exact hP, hD, hS.F ht⟩) hS.2.2 dX2_goOnByTurns_43

abbrev rm_X2_goOn : Room := { frames := 2, cells := 0, slots := 0, locals := 67 }
theorem ok_X2_goOn : okY yX2_goOn 2 := ⟨by decide +kernel, by decide +kernel, by decide +kernel⟩
set_option maxHeartbeats 4000000 in
set_option maxRecDepth 100000 in
theorem c_X2_goOn (l : Launch) (z0 : Nat) (D : va_G) (t : Nat → ClassId) (A : Nat → Nat) (B : Nat → Nat) (μ : VS) (a1 : Int64) (a2 : Int32) (res : (Nat → Int32) × (Nat → Nat) × (Nat → Nat) × (Int32) × (Nat → Int32) × (Nat → Int32) × (Int32) × (Nat → Int32) × (Nat → Int32)) (sz : Nat) (h : f_X2_goOn μ a1 a2 = some res) : Met l yX2_goOn (ws_ yX2_goOn cX2_goOn 7 none) rm_X2_goOn (PM z0 D t [.ref (A 0), .long a1, .int a2] (VW A B t μ) (VL A B μ) sz) (QM none D (VW A B t (v_rest μ, res.1, res.2.1, res.2.2.1, res.2.2.2.1, res.2.2.2.2.1, res.2.2.2.2.2.1, res.2.2.2.2.2.2.1, res.2.2.2.2.2.2.2.1, res.2.2.2.2.2.2.2.2)) (VL A B μ) sz) 0 0 (OA (VL A B μ) sz) := by
  refine Met.ofW (cc := cX2_goOn) (maxL := 7) (ret := none) (by decide) rfl ?_
  intro p e s m args below meth c s₁ Bo hml hv
  obtain ⟨rfl, hC, hsz, hP, hD, hZ⟩ := hv
  have hx := Bo.exec
  have hb := Bo.bytes
  have hr := Bo.returns
  have hts : ∀ w ∈ LA, w.before _ s = true := fun w hw => atoms_spec (ws := ws_ yX2_goOn cX2_goOn 7 none) Bo.pre w (List.mem_cons_of_mem _ hw)
  have hown : s.vm.findClass RX2 = some m.cls := findClass_of_methodNamed Bo.named
  have hlocks := Bo.notSynchronized
  have hK := hC.1
  subst hsz
  have hl := lv_entry ([.ref (A 0), .long a1, .int a2]) (n := 7) (Nat.le_of_ble_eq_true rfl)
  rw [lg_entry_eq]
  generalize (lg_sl ([.ref (A 0), .long a1, .int a2]) ++ List.replicate (7 - (lg_sl ([.ref (A 0), .long a1, .int a2])).length) Slot.unset).toArray = ls at hl ⊢
  have hl : lv_has ls 7 [(0, .ref (A 0)), (1, .long a1), (3, .int a2)] := hl
  suffices K9 : ∀ (H : Heap) (locs : List Loc), va_P D vwCl (VW A B t μ) H → va_S (OA (VL A B μ) s.heap.size) s.heap H locs → W p l e (headSpec (ws_ yX2_goOn cX2_goOn 7 none) rm_X2_goOn).room s m ([.ref (A 0), .long a1, .int a2] : List Value).toArray below meth c H locs 0 0 (MQ below (QM none D (VW A B t (v_rest μ, res.1, res.2.1, res.2.2.1, res.2.2.2.1, res.2.2.2.2.1, res.2.2.2.2.2.1, res.2.2.2.2.2.2.1, res.2.2.2.2.2.2.2.1, res.2.2.2.2.2.2.2.2)) (VL A B μ) s.heap.size) ([.ref (A 0), .long a1, .int a2] : List Value).toArray s 0 0 (OA (VL A B μ) s.heap.size)) (F0 m 0 ls []) from K9 s.heap [] hP va_S.rf
  intro H locs hP hS
  have hSz : s.heap.size ≤ H.size := hS.1
  unfold f_X2_goOn at h
  refine lv_lload_n hx hb dX2_goOn_0 rfl (lv_at hl 1 rfl) ?_
  refine lv_iload_n hx hb dX2_goOn_1 rfl (lv_at hl 2 rfl) ?_
  obtain ⟨r1, er1, h⟩ := obind h
  refine call_R (va_runSN (As := [.long a1, .int a2]) (rest := []) ⟨hx, hb, hml, hown, hts⟩ (c_X4_holds l z0 D t a1 a2 _ er1) ⟨kN hts (hC.2.1 _ qw295) qw1 qw297 ok_X4_holds ⟨Nat.le_of_ble_eq_true rfl, Nat.le_of_ble_eq_true rfl⟩, hts _ qw296, trivial⟩ ⟨PR.blind, fun U hU hW => ⟨rfl, by rw [hU]; exact (hC.at hS hZ).warm hW, by rw [hU]; exact va_P_nil⟩⟩ rfl rfl hl.1 rfl (lv_room (Nat.le_of_ble_eq_true rfl)) dX2_goOn_2 ⟨Nat.le_of_ble_eq_true rfl, Nat.le_of_ble_eq_true rfl⟩) ?_
  refine lv_istore (lv' := [(4, .int r1), (0, .ref (A 0)), (1, .long a1), (3, .int a2)]) hx hb dX2_goOn_5 hl (by decide) rfl (fun ls hl => ?_)
  refine lv_iload hx hb dX2_goOn_7 (lv_at hl 0 rfl) ?_
  obtain ⟨o3, eo3, h⟩ := obind h
  have hJ18_o3 : ∀ (ls : Array Slot) (H : Heap) (locs : List Loc), lv_has ls 7 [(0, .ref (A 0)), (4, .int r1)] → va_P D vwCl (VW A B t (v_takes' μ o3)) H → va_D (OA (VL A B μ) s.heap.size) (VW A B t (v_takes' μ o3)) → va_S (OA (VL A B μ) s.heap.size) s.heap H locs → W p l e (headSpec (ws_ yX2_goOn cX2_goOn 7 none) rm_X2_goOn).room s m ([.ref (A 0), .long a1, .int a2] : List Value).toArray below meth c H locs 0 0 (MQ below (QM none D (VW A B t (v_rest μ, res.1, res.2.1, res.2.2.1, res.2.2.2.1, res.2.2.2.2.1, res.2.2.2.2.2.1, res.2.2.2.2.2.2.1, res.2.2.2.2.2.2.2.1, res.2.2.2.2.2.2.2.2)) (VL A B μ) s.heap.size) ([.ref (A 0), .long a1, .int a2] : List Value).toArray s 0 0 (OA (VL A B μ) s.heap.size)) (F0 m 18 ls []) := by
    intro ls H locs hl hP hD hS
    have hSz : s.heap.size ≤ H.size := hS.1
    refine lv_aload_n hx hb dX2_goOn_18 rfl (lv_at hl 0 rfl) ?_
    refine va_get hx hb hts inX2 hown hK hP 0 rfl rfl 3 (by decide) (hts _ qw104) (fun _ h9 => h9) rfl dX2_goOn_19 ?_
    obtain ⟨r5, er5, h⟩ := obind h
    refine call_M (va_runV (As := []) (rest := []) ⟨hx, hb, hml, hown, hts⟩ (c_X6_clear l z0 D t (v_u2 μ) ((v_nsz μ), (v_nwin μ), (v_nway μ)) _ H.size er5) (kV hts qw263 qw264 qw265 qw7 qw266 ok_X6_clear ⟨Nat.le_of_ble_eq_true rfl, Nat.le_of_ble_eq_true rfl⟩) ⟨PM.blind, va_recv hK (sub_V_RE_n (μ := v_takes' μ o3) hP) (ci := 6) (q0 := 0) rfl rfl, fun U hU hW => ⟨rfl, by rw [hU]; exact (hC.at hS hZ).warm hW, by rw [hU], by rw [hU]; exact (sub_V_RE_n (μ := v_takes' μ o3) hP), ⟨(subD_V_RE_n (μ := v_takes' μ o3) hD).1, fun _ _ h9 => Or.inl (in_map (L := (REL (v_u2 μ))) rfl h9)⟩, fun q hq => hZ q (OA.ofD (subD_V_RE_n (μ := v_takes' μ o3) hD) rfl hSz q hq)⟩⟩ rfl rfl hl.1 rfl (lv_room (Nat.le_of_ble_eq_true rfl)) dX2_goOn_22 ⟨Nat.le_of_ble_eq_true rfl, Nat.le_of_ble_eq_true rfl⟩) hS (OA.ofD (subD_V_RE_n (μ := v_takes' μ o3) hD) rfl hSz) (fun H locs hP1 hD1 hS _ hk1 => ?_)
    obtain ⟨hP, hD⟩ := back_V_RE_n (μ := v_takes' μ o3) hP hD hk1 hP1
    have hP : va_P D vwCl (VW A B t (v_nway' (v_nsz' (v_takes' μ o3) r5.1) r5.2)) H := hP
    have hD : va_D (OA (VL A B μ) s.heap.size) (VW A B t (v_nway' (v_nsz' (v_takes' μ o3) r5.1) r5.2)) := hD
    have hSz : s.heap.size ≤ H.size := hS.1
    refine lv_iconst (v := (0)) hx hb dX2_goOn_25 (by decide) ?_
    refine lv_istore (lv' := [(5, .int (0 : Int32)), (0, .ref (A 0)), (4, .int r1)]) hx hb dX2_goOn_26 hl (by decide) rfl (fun ls hl => ?_)
    obtain ⟨o32, eo32, h⟩ := obind h
    have hL28 : ∀ (n : Nat) (y5_28 : Int32) (nsz_28 : Int32) (nwin_28 : Nat → Int32) (nway_28 : Nat → Int32) (o32 : (Int32) × (Nat → Int32) × (Nat → Int32)), f_X2_goOn_L28 μ r1 o3 n y5_28 nsz_28 nwin_28 nway_28 = some o32 → (∀ (ls : Array Slot) (H : Heap) (locs : List Loc), lv_has ls 7 [(0, .ref (A 0))] → va_P D vwCl (VW A B t (v_rest μ, o3, v_u1 μ, v_u2 μ, v_hsz μ, v_hwin μ, v_hway μ, o32.1, o32.2.1, o32.2.2)) H → va_D (OA (VL A B μ) s.heap.size) (VW A B t (v_rest μ, o3, v_u1 μ, v_u2 μ, v_hsz μ, v_hwin μ, v_hway μ, o32.1, o32.2.1, o32.2.2)) → va_S (OA (VL A B μ) s.heap.size) s.heap H locs → W p l e (headSpec (ws_ yX2_goOn cX2_goOn 7 none) rm_X2_goOn).room s m ([.ref (A 0), .long a1, .int a2] : List Value).toArray below meth c H locs 0 0 (MQ below (QM none D (VW A B t (v_rest μ, res.1, res.2.1, res.2.2.1, res.2.2.2.1, res.2.2.2.2.1, res.2.2.2.2.2.1, res.2.2.2.2.2.2.1, res.2.2.2.2.2.2.2.1, res.2.2.2.2.2.2.2.2)) (VL A B μ) s.heap.size) ([.ref (A 0), .long a1, .int a2] : List Value).toArray s 0 0 (OA (VL A B μ) s.heap.size)) (F0 m 98 ls [])) → ∀ (ls : Array Slot) (H : Heap) (locs : List Loc), lv_has ls 7 [(0, .ref (A 0)), (4, .int r1), (5, .int y5_28)] → va_P D vwCl (VW A B t (v_rest μ, o3, v_u1 μ, v_u2 μ, v_hsz μ, v_hwin μ, v_hway μ, nsz_28, nwin_28, nway_28)) H → va_D (OA (VL A B μ) s.heap.size) (VW A B t (v_rest μ, o3, v_u1 μ, v_u2 μ, v_hsz μ, v_hwin μ, v_hway μ, nsz_28, nwin_28, nway_28)) → va_S (OA (VL A B μ) s.heap.size) s.heap H locs → W p l e (headSpec (ws_ yX2_goOn cX2_goOn 7 none) rm_X2_goOn).room s m ([.ref (A 0), .long a1, .int a2] : List Value).toArray below meth c H locs 0 0 (MQ below (QM none D (VW A B t (v_rest μ, res.1, res.2.1, res.2.2.1, res.2.2.2.1, res.2.2.2.2.1, res.2.2.2.2.2.1, res.2.2.2.2.2.2.1, res.2.2.2.2.2.2.2.1, res.2.2.2.2.2.2.2.2)) (VL A B μ) s.heap.size) ([.ref (A 0), .long a1, .int a2] : List Value).toArray s 0 0 (OA (VL A B μ) s.heap.size)) (F0 m 28 ls []) := by
      intro n
      induction n with
      | zero => intro y5_28 nsz_28 nwin_28 nway_28 o32 h; exact absurd h (fun z => by cases z)
      | succ n ih =>
        intro y5_28 nsz_28 nwin_28 nway_28 o32 h hK28 ls H locs hl hP hD hS
        replace h : f_X2_goOn_L28_b μ r1 o3 (f_X2_goOn_L28 μ r1 o3 n) y5_28 nsz_28 nwin_28 nway_28 = some o32 := h
        unfold f_X2_goOn_L28_b at h
        have hSz : s.heap.size ≤ H.size := hS.1
        refine lv_iload hx hb dX2_goOn_28 (lv_at hl 2 rfl) ?_
        refine lv_aload_n hx hb dX2_goOn_30 rfl (lv_at hl 0 rfl) ?_
        refine va_get hx hb hts inX2 hown hK hP 0 rfl rfl 2 (by decide) (hts _ qw103) (fun _ h9 => h9) rfl dX2_goOn_31 ?_
        refine va_get hx hb hts inX6 hown hK hP 3 rfl rfl 0 (by decide) (hts _ qw91) (fun _ h9 => h9) rfl dX2_goOn_34 ?_
        refine lv_icmp_ge (tgt := 98) hx hb dX2_goOn_37 (by decide) (fun hc => ?_) (fun hc => ?_)
        · have h := iteT hc h
          obtain rfl := Option.some.inj h
          exact hK28 ls H locs (lv_sub hl [0] rfl) hP hD hS
        · have h := iteF hc h
          refine lv_aload_n hx hb dX2_goOn_40 rfl (lv_at hl 0 rfl) ?_
          refine va_get hx hb hts inX2 hown hK hP 0 rfl rfl 2 (by decide) (hts _ qw103) (fun _ h9 => h9) rfl dX2_goOn_41 ?_
          refine lv_iload hx hb dX2_goOn_44 (lv_at hl 2 rfl) ?_
          obtain ⟨r33, er33, h⟩ := obind h
          refine call_R (va_runV (As := [.int y5_28]) (rest := []) ⟨hx, hb, hml, hown, hts⟩ (c_X6_windowAt l z0 D t (v_u1 μ) ((v_hsz μ), (v_hwin μ), (v_hway μ)) y5_28 _ er33) (kV hts qw311 qw268 qw269 qw7 qw270 ok_X6_windowAt ⟨Nat.le_of_ble_eq_true rfl, Nat.le_of_ble_eq_true rfl⟩) ⟨PR.blind, va_recv hK (sub_V_RE_h (μ := (v_rest μ, o3, v_u1 μ, v_u2 μ, v_hsz μ, v_hwin μ, v_hway μ, nsz_28, nwin_28, nway_28)) hP) (ci := 6) (q0 := 0) rfl rfl, fun U hU hW => ⟨rfl, by rw [hU]; exact (hC.at hS hZ).warm hW, by rw [hU]; exact (sub_V_RE_h (μ := (v_rest μ, o3, v_u1 μ, v_u2 μ, v_hsz μ, v_hwin μ, v_hway μ, nsz_28, nwin_28, nway_28)) hP)⟩⟩ rfl rfl hl.1 rfl (lv_room (Nat.le_of_ble_eq_true rfl)) dX2_goOn_46 ⟨Nat.le_of_ble_eq_true rfl, Nat.le_of_ble_eq_true rfl⟩) ?_
          refine lv_istore (lv' := [(6, .int r33), (0, .ref (A 0)), (4, .int r1), (5, .int y5_28)]) hx hb dX2_goOn_49 hl (by decide) rfl (fun ls hl => ?_)
          refine lv_iload hx hb dX2_goOn_51 (lv_at hl 2 rfl) ?_
          obtain ⟨o39, eo39, h⟩ := obind h
          have hJ92_o39 : ∀ (ls : Array Slot) (H : Heap) (locs : List Loc), lv_has ls 7 [(0, .ref (A 0)), (4, .int r1), (5, .int y5_28)] → va_P D vwCl (VW A B t (v_rest μ, o3, v_u1 μ, v_u2 μ, v_hsz μ, v_hwin μ, v_hway μ, o39.1, o39.2.1, o39.2.2)) H → va_D (OA (VL A B μ) s.heap.size) (VW A B t (v_rest μ, o3, v_u1 μ, v_u2 μ, v_hsz μ, v_hwin μ, v_hway μ, o39.1, o39.2.1, o39.2.2)) → va_S (OA (VL A B μ) s.heap.size) s.heap H locs → W p l e (headSpec (ws_ yX2_goOn cX2_goOn 7 none) rm_X2_goOn).room s m ([.ref (A 0), .long a1, .int a2] : List Value).toArray below meth c H locs 0 0 (MQ below (QM none D (VW A B t (v_rest μ, res.1, res.2.1, res.2.2.1, res.2.2.2.1, res.2.2.2.2.1, res.2.2.2.2.2.1, res.2.2.2.2.2.2.1, res.2.2.2.2.2.2.2.1, res.2.2.2.2.2.2.2.2)) (VL A B μ) s.heap.size) ([.ref (A 0), .long a1, .int a2] : List Value).toArray s 0 0 (OA (VL A B μ) s.heap.size)) (F0 m 92 ls []) := by
            intro ls H locs hl hP hD hS
            have hSz : s.heap.size ≤ H.size := hS.1
            obtain ⟨x45, ex45, h⟩ := jlet_some h
            refine lv_iinc (v := x45) (lv' := [(5, .int x45), (0, .ref (A 0)), (4, .int r1)]) hx hb dX2_goOn_92 hl (k := 2) rfl (by rw [ex45]; rfl) (by decide) rfl (fun ls hl => ?_)
            refine lv_goto (tgt := 28) hx hb dX2_goOn_95 (by decide) ?_
            exact ih _ _ _ _ _ h hK28 ls H locs (lv_sub hl [1, 2, 0] rfl) hP hD hS
          have h := eo39
          clear eo39
          refine lv_if_eq (tgt := 72) hx hb dX2_goOn_53 (by decide) (fun hc => ?_) (fun hc => ?_)
          · have h := iteT hc h
            refine lv_aload_n hx hb dX2_goOn_72 rfl (lv_at hl 1 rfl) ?_
            refine va_get hx hb hts inX2 hown hK hP 0 rfl rfl 3 (by decide) (hts _ qw104) (fun _ h9 => h9) rfl dX2_goOn_73 ?_
            refine lv_iload hx hb dX2_goOn_76 (lv_at hl 0 rfl) ?_
            refine lv_iconst (v := (1)) hx hb dX2_goOn_78 (by decide) ?_
            refine lv_ishr hx hb dX2_goOn_79 ?_
            refine lv_aload_n hx hb dX2_goOn_80 rfl (lv_at hl 1 rfl) ?_
            refine va_get hx hb hts inX2 hown hK hP 0 rfl rfl 2 (by decide) (hts _ qw103) (fun _ h9 => h9) rfl dX2_goOn_81 ?_
            refine lv_iload hx hb dX2_goOn_84 (lv_at hl 0 rfl) ?_
            obtain ⟨r40, er40, h⟩ := obind h
            refine call_R (va_runV (As := [.int r33]) (rest := [.int (r33 >>> ((1 : Int32) &&& 31)), .ref ((v_u2 μ) 0)]) ⟨hx, hb, hml, hown, hts⟩ (c_X6_waysTo l z0 D t (v_u1 μ) ((v_hsz μ), (v_hwin μ), (v_hway μ)) r33 _ er40) (kV hts qw324 qw325 qw326 qw7 qw327 ok_X6_waysTo ⟨Nat.le_of_ble_eq_true rfl, Nat.le_of_ble_eq_true rfl⟩) ⟨PR.blind, va_recv hK (sub_V_RE_h (μ := (v_rest μ, o3, v_u1 μ, v_u2 μ, v_hsz μ, v_hwin μ, v_hway μ, nsz_28, nwin_28, nway_28)) hP) (ci := 6) (q0 := 0) rfl rfl, fun U hU hW => ⟨rfl, by rw [hU]; exact (hC.at hS hZ).warm hW, by rw [hU]; exact (sub_V_RE_h (μ := (v_rest μ, o3, v_u1 μ, v_u2 μ, v_hsz μ, v_hwin μ, v_hway μ, nsz_28, nwin_28, nway_28)) hP)⟩⟩ rfl rfl hl.1 rfl (lv_room (Nat.le_of_ble_eq_true rfl)) dX2_goOn_86 ⟨Nat.le_of_ble_eq_true rfl, Nat.le_of_ble_eq_true rfl⟩) ?_
            obtain ⟨r41, er41, h⟩ := obind h
            refine call_M (va_runV (As := [.int (r33 >>> ((1 : Int32) &&& 31)), .int r40]) (rest := []) ⟨hx, hb, hml, hown, hts⟩ (c_X6_add l z0 D t (v_u2 μ) (nsz_28, nwin_28, nway_28) (r33 >>> ((1 : Int32) &&& 31)) r40 _ H.size er41) (kV hts qw271 qw272 qw273 qw7 qw274 ok_X6_add ⟨Nat.le_of_ble_eq_true rfl, Nat.le_of_ble_eq_true rfl⟩) ⟨PM.blind, va_recv hK (sub_V_RE_n (μ := (v_rest μ, o3, v_u1 μ, v_u2 μ, v_hsz μ, v_hwin μ, v_hway μ, nsz_28, nwin_28, nway_28)) hP) (ci := 6) (q0 := 0) rfl rfl, fun U hU hW => ⟨rfl, by rw [hU]; exact (hC.at hS hZ).warm hW, by rw [hU], by rw [hU]; exact (sub_V_RE_n (μ := (v_rest μ, o3, v_u1 μ, v_u2 μ, v_hsz μ, v_hwin μ, v_hway μ, nsz_28, nwin_28, nway_28)) hP), ⟨(subD_V_RE_n (μ := (v_rest μ, o3, v_u1 μ, v_u2 μ, v_hsz μ, v_hwin μ, v_hway μ, nsz_28, nwin_28, nway_28)) hD).1, fun _ _ h9 => Or.inl (in_map (L := (REL (v_u2 μ))) rfl h9)⟩, fun q hq => hZ q (OA.ofD (subD_V_RE_n (μ := (v_rest μ, o3, v_u1 μ, v_u2 μ, v_hsz μ, v_hwin μ, v_hway μ, nsz_28, nwin_28, nway_28)) hD) rfl hSz q hq)⟩⟩ rfl rfl hl.1 rfl (lv_room (Nat.le_of_ble_eq_true rfl)) dX2_goOn_89 ⟨Nat.le_of_ble_eq_true rfl, Nat.le_of_ble_eq_true rfl⟩) hS (OA.ofD (subD_V_RE_n (μ := (v_rest μ, o3, v_u1 μ, v_u2 μ, v_hsz μ, v_hwin μ, v_hway μ, nsz_28, nwin_28, nway_28)) hD) rfl hSz) (fun H locs hP1 hD1 hS _ hk1 => ?_)
            obtain ⟨hP, hD⟩ := back_V_RE_n (μ := (v_rest μ, o3, v_u1 μ, v_u2 μ, v_hsz μ, v_hwin μ, v_hway μ, nsz_28, nwin_28, nway_28)) hP hD hk1 hP1
            have hP : va_P D vwCl (VW A B t (v_rest μ, o3, v_u1 μ, v_u2 μ, v_hsz μ, v_hwin μ, v_hway μ, r41.1, r41.2.1, r41.2.2)) H := hP
            have hD : va_D (OA (VL A B μ) s.heap.size) (VW A B t (v_rest μ, o3, v_u1 μ, v_u2 μ, v_hsz μ, v_hwin μ, v_hway μ, r41.1, r41.2.1, r41.2.2)) := hD
            have hSz : s.heap.size ≤ H.size := hS.1
            obtain rfl := Option.some.inj h
            exact hJ92_o39 ls H locs (lv_sub hl [1, 2, 3] rfl) hP hD hS
          · have h := iteF hc h
            refine lv_iload hx hb dX2_goOn_56 (lv_at hl 0 rfl) ?_
            refine lv_iconst (v := (1)) hx hb dX2_goOn_58 (by decide) ?_
            refine lv_iand hx hb dX2_goOn_59 ?_
            refine lv_if_ne (tgt := 72) hx hb dX2_goOn_60 (by decide) (fun hc => ?_) (fun hc => ?_)
            · have h := iteF hc h
              refine lv_aload_n hx hb dX2_goOn_72 rfl (lv_at hl 1 rfl) ?_
              refine va_get hx hb hts inX2 hown hK hP 0 rfl rfl 3 (by decide) (hts _ qw104) (fun _ h9 => h9) rfl dX2_goOn_73 ?_
              refine lv_iload hx hb dX2_goOn_76 (lv_at hl 0 rfl) ?_
              refine lv_iconst (v := (1)) hx hb dX2_goOn_78 (by decide) ?_
              refine lv_ishr hx hb dX2_goOn_79 ?_
              refine lv_aload_n hx hb dX2_goOn_80 rfl (lv_at hl 1 rfl) ?_
              refine va_get hx hb hts inX2 hown hK hP 0 rfl rfl 2 (by decide) (hts _ qw103) (fun _ h9 => h9) rfl dX2_goOn_81 ?_
              refine lv_iload hx hb dX2_goOn_84 (lv_at hl 0 rfl) ?_
              obtain ⟨r42, er42, h⟩ := obind h
              refine call_R (va_runV (As := [.int r33]) (rest := [.int (r33 >>> ((1 : Int32) &&& 31)), .ref ((v_u2 μ) 0)]) ⟨hx, hb, hml, hown, hts⟩ (c_X6_waysTo l z0 D t (v_u1 μ) ((v_hsz μ), (v_hwin μ), (v_hway μ)) r33 _ er42) (kV hts qw324 qw325 qw326 qw7 qw327 ok_X6_waysTo ⟨Nat.le_of_ble_eq_true rfl, Nat.le_of_ble_eq_true rfl⟩) ⟨PR.blind, va_recv hK (sub_V_RE_h (μ := (v_rest μ, o3, v_u1 μ, v_u2 μ, v_hsz μ, v_hwin μ, v_hway μ, nsz_28, nwin_28, nway_28)) hP) (ci := 6) (q0 := 0) rfl rfl, fun U hU hW => ⟨rfl, by rw [hU]; exact (hC.at hS hZ).warm hW, by rw [hU]; exact (sub_V_RE_h (μ := (v_rest μ, o3, v_u1 μ, v_u2 μ, v_hsz μ, v_hwin μ, v_hway μ, nsz_28, nwin_28, nway_28)) hP)⟩⟩ rfl rfl hl.1 rfl (lv_room (Nat.le_of_ble_eq_true rfl)) dX2_goOn_86 ⟨Nat.le_of_ble_eq_true rfl, Nat.le_of_ble_eq_true rfl⟩) ?_
              obtain ⟨r43, er43, h⟩ := obind h
              refine call_M (va_runV (As := [.int (r33 >>> ((1 : Int32) &&& 31)), .int r42]) (rest := []) ⟨hx, hb, hml, hown, hts⟩ (c_X6_add l z0 D t (v_u2 μ) (nsz_28, nwin_28, nway_28) (r33 >>> ((1 : Int32) &&& 31)) r42 _ H.size er43) (kV hts qw271 qw272 qw273 qw7 qw274 ok_X6_add ⟨Nat.le_of_ble_eq_true rfl, Nat.le_of_ble_eq_true rfl⟩) ⟨PM.blind, va_recv hK (sub_V_RE_n (μ := (v_rest μ, o3, v_u1 μ, v_u2 μ, v_hsz μ, v_hwin μ, v_hway μ, nsz_28, nwin_28, nway_28)) hP) (ci := 6) (q0 := 0) rfl rfl, fun U hU hW => ⟨rfl, by rw [hU]; exact (hC.at hS hZ).warm hW, by rw [hU], by rw [hU]; exact (sub_V_RE_n (μ := (v_rest μ, o3, v_u1 μ, v_u2 μ, v_hsz μ, v_hwin μ, v_hway μ, nsz_28, nwin_28, nway_28)) hP), ⟨(subD_V_RE_n (μ := (v_rest μ, o3, v_u1 μ, v_u2 μ, v_hsz μ, v_hwin μ, v_hway μ, nsz_28, nwin_28, nway_28)) hD).1, fun _ _ h9 => Or.inl (in_map (L := (REL (v_u2 μ))) rfl h9)⟩, fun q hq => hZ q (OA.ofD (subD_V_RE_n (μ := (v_rest μ, o3, v_u1 μ, v_u2 μ, v_hsz μ, v_hwin μ, v_hway μ, nsz_28, nwin_28, nway_28)) hD) rfl hSz q hq)⟩⟩ rfl rfl hl.1 rfl (lv_room (Nat.le_of_ble_eq_true rfl)) dX2_goOn_89 ⟨Nat.le_of_ble_eq_true rfl, Nat.le_of_ble_eq_true rfl⟩) hS (OA.ofD (subD_V_RE_n (μ := (v_rest μ, o3, v_u1 μ, v_u2 μ, v_hsz μ, v_hwin μ, v_hway μ, nsz_28, nwin_28, nway_28)) hD) rfl hSz) (fun H locs hP1 hD1 hS _ hk1 => ?_)
              obtain ⟨hP, hD⟩ := back_V_RE_n (μ := (v_rest μ, o3, v_u1 μ, v_u2 μ, v_hsz μ, v_hwin μ, v_hway μ, nsz_28, nwin_28, nway_28)) hP hD hk1 hP1
              have hP : va_P D vwCl (VW A B t (v_rest μ, o3, v_u1 μ, v_u2 μ, v_hsz μ, v_hwin μ, v_hway μ, r43.1, r43.2.1, r43.2.2)) H := hP
              have hD : va_D (OA (VL A B μ) s.heap.size) (VW A B t (v_rest μ, o3, v_u1 μ, v_u2 μ, v_hsz μ, v_hwin μ, v_hway μ, r43.1, r43.2.1, r43.2.2)) := hD
              have hSz : s.heap.size ≤ H.size := hS.1
              obtain rfl := Option.some.inj h
              exact hJ92_o39 ls H locs (lv_sub hl [1, 2, 3] rfl) hP hD hS
            · have h := iteT hc h
              refine lv_aload_n hx hb dX2_goOn_63 rfl (lv_at hl 1 rfl) ?_
              refine lv_iload hx hb dX2_goOn_64 (lv_at hl 0 rfl) ?_
              obtain ⟨r44, er44, h⟩ := obind h
              refine call_M (va_runV (As := [.int r33]) (rest := []) ⟨hx, hb, hml, hown, hts⟩ (c_X2_goOnByTurns l z0 D t A B (v_rest μ, o3, v_u1 μ, v_u2 μ, v_hsz μ, v_hwin μ, v_hway μ, nsz_28, nwin_28, nway_28) r33 _ H.size er44) (kV hts qw312 qw314 qs5 qw6 qw315 ok_X2_goOnByTurns ⟨Nat.le_of_ble_eq_true rfl, Nat.le_of_ble_eq_true rfl⟩) ⟨PM.blind, va_recv hK hP (ci := 3) (q0 := 0) rfl rfl, fun U hU hW => ⟨rfl, by rw [hU]; exact (hC.at hS hZ).warm hW, by rw [hU], by rw [hU]; exact hP, ⟨hD.1, fun _ _ h9 => Or.inl (in_map (L := (VL A B (v_rest μ, o3, v_u1 μ, v_u2 μ, v_hsz μ, v_hwin μ, v_hway μ, nsz_28, nwin_28, nway_28))) rfl h9)⟩, fun q hq => hZ q (OA.ofD hD rfl hSz q hq)⟩⟩ rfl rfl hl.1 rfl (lv_room (Nat.le_of_ble_eq_true rfl)) dX2_goOn_66 ⟨Nat.le_of_ble_eq_true rfl, Nat.le_of_ble_eq_true rfl⟩) hS (OA.ofD hD rfl hSz) (fun H locs hP hD1 hS _ _ => ?_)
              have hP : va_P D vwCl (VW A B t (v_rest μ, o3, v_u1 μ, v_u2 μ, v_hsz μ, v_hwin μ, v_hway μ, r44.1, r44.2.1, r44.2.2)) H := hP
              have hD : va_D (OA (VL A B μ) s.heap.size) (VW A B t (v_rest μ, o3, v_u1 μ, v_u2 μ, v_hsz μ, v_hwin μ, v_hway μ, r44.1, r44.2.1, r44.2.2)) := hD1.weaken (fun _ q _ h9 => OA.ofD hD rfl hSz q.1 h9)
              have hSz : s.heap.size ≤ H.size := hS.1
              refine lv_goto (tgt := 92) hx hb dX2_goOn_69 (by decide) ?_
              obtain rfl := Option.some.inj h
              exact hJ92_o39 ls H locs (lv_sub hl [1, 2, 3] rfl) hP hD hS
    refine hL28 _ _ _ _ _ _ eo32 (fun ls H locs hl hP hD hS => ?_) ls H locs (lv_sub hl [1, 2, 0] rfl) hP hD hS
    have hSz : s.heap.size ≤ H.size := hS.1
    refine lv_aload_n hx hb dX2_goOn_98 rfl (lv_at hl 0 rfl) ?_
    refine va_get hx hb hts inX2 hown hK hP 0 rfl rfl 2 (by decide) (hts _ qw103) (fun _ h9 => h9) rfl dX2_goOn_99 ?_
    refine lv_astore (lv' := [(5, .ref ((v_u1 μ) 0)), (0, .ref (A 0))]) hx hb dX2_goOn_102 hl (by decide) rfl (fun ls hl => ?_)
    refine lv_aload_n hx hb dX2_goOn_104 rfl (lv_at hl 1 rfl) ?_
    refine lv_aload_n hx hb dX2_goOn_105 rfl (lv_at hl 1 rfl) ?_
    refine va_get hx hb hts inX2 hown hK hP 0 rfl rfl 3 (by decide) (hts _ qw104) (fun _ h9 => h9) rfl dX2_goOn_106 ?_
    refine va_put (D := D) (ci := 3) (v := .ref ((v_u2 μ) 0)) (ty := .object "BentGardens$Reached") hx hb hts inX2 tyX2 tyX2_ok nmX2 hown hK hP hD hS 0 rfl rfl 2 (by decide) (hts _ qw103) (fun _ h9 => h9) rfl (by decide +kernel) rfl rfl (Nat.le_of_ble_eq_true rfl) dX2_goOn_109 (fun H locs hP hD hS => ?_)
    have hSz : s.heap.size ≤ H.size := hS.1
    refine lv_aload_n hx hb dX2_goOn_112 rfl (lv_at hl 1 rfl) ?_
    refine lv_aload hx hb dX2_goOn_113 (lv_at hl 0 rfl) ?_
    refine va_put (D := D) (ci := 3) (v := .ref ((v_u1 μ) 0)) (ty := .object "BentGardens$Reached") hx hb hts inX2 tyX2 tyX2_ok nmX2 hown hK hP hD hS 0 rfl rfl 3 (by decide) (hts _ qw104) (fun _ h9 => h9) rfl (by decide +kernel) rfl rfl (Nat.le_of_ble_eq_true rfl) dX2_goOn_115 (fun H locs hP hD hS => ?_)
    have hP : va_P D vwCl (VW A B t (v_rest μ, o3, (v_u2 μ), (v_u1 μ), o32.1, o32.2.1, o32.2.2, (v_hsz μ), (v_hwin μ), (v_hway μ))) H := swap_V (μ := (v_rest μ, o3, v_u1 μ, v_u2 μ, v_hsz μ, v_hwin μ, v_hway μ, o32.1, o32.2.1, o32.2.2)) hP
    have hD : va_D (OA (VL A B μ) s.heap.size) (VW A B t (v_rest μ, o3, (v_u2 μ), (v_u1 μ), o32.1, o32.2.1, o32.2.2, (v_hsz μ), (v_hwin μ), (v_hway μ))) := swap_VD (μ := (v_rest μ, o3, v_u1 μ, v_u2 μ, v_hsz μ, v_hwin μ, v_hway μ, o32.1, o32.2.1, o32.2.2)) hD
    have hSz : s.heap.size ≤ H.size := hS.1
    obtain rfl := Option.some.inj h
    exact W.vret hx hb hr (fun t ht hW => ⟨rfl, by rw [ht]; exact hP, hD, hS.F ht⟩) hS.2.2 dX2_goOn_118
  have h := eo3
  clear eo3
  refine lv_if_eq (tgt := 18) hx hb dX2_goOn_9 (by decide) (fun hc => ?_) (fun hc => ?_)
  · have h := iteT hc h
    obtain rfl := Option.some.inj h
    exact hJ18_o3 ls H locs (lv_sub hl [1, 0] rfl) hP hD hS
  · have h := iteF hc h
    refine lv_aload_n hx hb dX2_goOn_12 rfl (lv_at hl 1 rfl) ?_
    refine lv_lload_n hx hb dX2_goOn_13 rfl (lv_at hl 2 rfl) ?_
    refine lv_iload_n hx hb dX2_goOn_14 rfl (lv_at hl 3 rfl) ?_
    obtain ⟨r4, er4, h⟩ := obind h
    refine call_M (va_runV (As := [.long a1, .int a2]) (rest := []) ⟨hx, hb, hml, hown, hts⟩ (c_X2_findTakes l z0 D t A ((v_takes μ), (v_u1 μ), (v_u2 μ)) a1 a2 _ H.size er4) (kV hts qw298 qw300 qs4 qw6 qw301 ok_X2_findTakes ⟨Nat.le_of_ble_eq_true rfl, Nat.le_of_ble_eq_true rfl⟩) ⟨PM.blind, va_recv hK (sub_V_P (μ := μ) hP) (ci := 3) (q0 := 0) rfl rfl, fun U hU hW => ⟨rfl, by rw [hU]; exact (hC.at hS hZ).warm hW, by rw [hU], by rw [hU]; exact (sub_V_P (μ := μ) hP), ⟨(subD_V_P (μ := μ) hD).1, fun _ _ h9 => Or.inl (in_map (L := (PL A)) rfl h9)⟩, fun q hq => hZ q (OA.ofD (subD_V_P (μ := μ) hD) rfl hSz q hq)⟩⟩ rfl rfl hl.1 rfl (lv_room (Nat.le_of_ble_eq_true rfl)) dX2_goOn_15 ⟨Nat.le_of_ble_eq_true rfl, Nat.le_of_ble_eq_true rfl⟩) hS (OA.ofD (subD_V_P (μ := μ) hD) rfl hSz) (fun H locs hP1 hD1 hS _ hk1 => ?_)
    obtain ⟨hP, hD⟩ := back_V_P (μ := μ) hP hD hk1 hP1
    have hP : va_P D vwCl (VW A B t (v_takes' μ r4)) H := hP
    have hD : va_D (OA (VL A B μ) s.heap.size) (VW A B t (v_takes' μ r4)) := hD
    have hSz : s.heap.size ≤ H.size := hS.1
    obtain rfl := Option.some.inj h
    exact hJ18_o3 ls H locs (lv_sub hl [1, 0] rfl) hP hD hS

abbrev rm_X2_waysToPave : Room := { frames := 3, cells := 0, slots := 0, locals := 93 }
theorem ok_X2_waysToPave : okY yX2_waysToPave 1 := ⟨by decide +kernel, by decide +kernel, by decide +kernel⟩
set_option maxHeartbeats 4000000 in
set_option maxRecDepth 100000 in
theorem c_X2_waysToPave (l : Launch) (z0 : Nat) (D : va_G) (t : Nat → ClassId) (A : Nat → Nat) (B : Nat → Nat) (μ : VS) (a1 : Int64) (res : Int32 × (Nat → Int32) × (Nat → Nat) × (Nat → Nat) × (Int32) × (Nat → Int32) × (Nat → Int32) × (Int32) × (Nat → Int32) × (Nat → Int32)) (sz : Nat) (h : f_X2_waysToPave μ a1 = some res) : Met l yX2_waysToPave (ws_ yX2_waysToPave cX2_waysToPave 5 (some .int)) rm_X2_waysToPave (PM z0 D t [.ref (A 0), .long a1] (VW A B t μ) (VL A B μ) sz) (QM (some (.int res.1)) D (VW A B t (v_rest μ, res.2.1, res.2.2.1, res.2.2.2.1, res.2.2.2.2.1, res.2.2.2.2.2.1, res.2.2.2.2.2.2.1, res.2.2.2.2.2.2.2.1, res.2.2.2.2.2.2.2.2.1, res.2.2.2.2.2.2.2.2.2)) (VL A B μ) sz) 0 0 (OA (VL A B μ) sz) := by
  refine Met.ofW (cc := cX2_waysToPave) (maxL := 5) (ret := (some .int)) (by decide) rfl ?_
  intro p e s m args below meth c s₁ Bo hml hv
  obtain ⟨rfl, hC, hsz, hP, hD, hZ⟩ := hv
  have hx := Bo.exec
  have hb := Bo.bytes
  have hr := Bo.returns
  have hts : ∀ w ∈ LA, w.before _ s = true := fun w hw => atoms_spec (ws := ws_ yX2_waysToPave cX2_waysToPave 5 (some .int)) Bo.pre w (List.mem_cons_of_mem _ hw)
  have hown : s.vm.findClass RX2 = some m.cls := findClass_of_methodNamed Bo.named
  have hlocks := Bo.notSynchronized
  have hK := hC.1
  subst hsz
  have hl := lv_entry ([.ref (A 0), .long a1]) (n := 5) (Nat.le_of_ble_eq_true rfl)
  rw [lg_entry_eq]
  generalize (lg_sl ([.ref (A 0), .long a1]) ++ List.replicate (5 - (lg_sl ([.ref (A 0), .long a1])).length) Slot.unset).toArray = ls at hl ⊢
  have hl : lv_has ls 5 [(0, .ref (A 0)), (1, .long a1)] := hl
  suffices K9 : ∀ (H : Heap) (locs : List Loc), va_P D vwCl (VW A B t μ) H → va_S (OA (VL A B μ) s.heap.size) s.heap H locs → W p l e (headSpec (ws_ yX2_waysToPave cX2_waysToPave 5 (some .int)) rm_X2_waysToPave).room s m ([.ref (A 0), .long a1] : List Value).toArray below meth c H locs 0 0 (MQ below (QM (some (.int res.1)) D (VW A B t (v_rest μ, res.2.1, res.2.2.1, res.2.2.2.1, res.2.2.2.2.1, res.2.2.2.2.2.1, res.2.2.2.2.2.2.1, res.2.2.2.2.2.2.2.1, res.2.2.2.2.2.2.2.2.1, res.2.2.2.2.2.2.2.2.2)) (VL A B μ) s.heap.size) ([.ref (A 0), .long a1] : List Value).toArray s 0 0 (OA (VL A B μ) s.heap.size)) (F0 m 0 ls []) from K9 s.heap [] hP va_S.rf
  intro H locs hP hS
  have hSz : s.heap.size ≤ H.size := hS.1
  unfold f_X2_waysToPave at h
  refine lv_lload_n hx hb dX2_waysToPave_0 rfl (lv_at hl 1 rfl) ?_
  obtain ⟨r1, er1, h⟩ := obind h
  refine call_R (va_runS (As := [.long a1]) (rest := []) ⟨hx, hb, hml, hown, hts⟩ (c_J13_bitCount_95d88 l z0 D t a1 _ er1) (kS hts qw253 qw254 qw22 qw255 ok_J13_bitCount_95d88 ⟨Nat.le_of_ble_eq_true rfl, Nat.le_of_ble_eq_true rfl⟩) ⟨PR.blind, fun U hU hW => ⟨rfl, by rw [hU]; exact (hC.at hS hZ).warm hW, by rw [hU]; exact va_P_nil⟩⟩ rfl rfl hl.1 rfl (lv_room (Nat.le_of_ble_eq_true rfl)) dX2_waysToPave_1 ⟨Nat.le_of_ble_eq_true rfl, Nat.le_of_ble_eq_true rfl⟩) ?_
  refine lv_iconst (v := (3)) hx hb dX2_waysToPave_4 (by decide) ?_
  refine lv_irem hx hb dX2_waysToPave_5 (by decide) ?_
  refine lv_if_eq (tgt := 11) hx hb dX2_waysToPave_6 (by decide) (fun hc => ?_) (fun hc => ?_)
  · have h := iteT hc h
    refine lv_aload_n hx hb dX2_waysToPave_11 rfl (lv_at hl 0 rfl) ?_
    obtain ⟨r2, er2, h⟩ := obind h
    refine call_M (va_runV (As := []) (rest := []) ⟨hx, hb, hml, hown, hts⟩ (c_X2_begin l z0 D t A B μ _ H.size er2) (kV hts qw259 qw261 qs2 qw6 qw262 ok_X2_begin ⟨Nat.le_of_ble_eq_true rfl, Nat.le_of_ble_eq_true rfl⟩) ⟨PM.blind, va_recv hK hP (ci := 3) (q0 := 0) rfl rfl, fun U hU hW => ⟨rfl, by rw [hU]; exact (hC.at hS hZ).warm hW, by rw [hU], by rw [hU]; exact hP, ⟨hD.1, fun _ _ h9 => Or.inl (in_map (L := (VL A B μ)) rfl h9)⟩, fun q hq => hZ q (OA.ofD hD rfl hSz q hq)⟩⟩ rfl rfl hl.1 rfl (lv_room (Nat.le_of_ble_eq_true rfl)) dX2_waysToPave_12 ⟨Nat.le_of_ble_eq_true rfl, Nat.le_of_ble_eq_true rfl⟩) hS (OA.ofD hD rfl hSz) (fun H locs hP hD1 hS _ _ => ?_)
    have hP : va_P D vwCl (VW A B t (v_hway' (v_hwin' (v_hsz' μ r2.1) r2.2.1) r2.2.2)) H := hP
    have hD : va_D (OA (VL A B μ) s.heap.size) (VW A B t (v_hway' (v_hwin' (v_hsz' μ r2.1) r2.2.1) r2.2.2)) := hD1.weaken (fun _ q _ h9 => OA.ofD hD rfl hSz q.1 h9)
    have hSz : s.heap.size ≤ H.size := hS.1
    refine lv_lload_n hx hb dX2_waysToPave_15 rfl (lv_at hl 1 rfl) ?_
    obtain ⟨r3, er3, h⟩ := obind h
    refine call_R (va_runS (As := [.long a1]) (rest := []) ⟨hx, hb, hml, hown, hts⟩ (c_X2_endOf l z0 D t a1 _ er3) (kS hts qw275 qw276 qw6 qw277 ok_X2_endOf ⟨Nat.le_of_ble_eq_true rfl, Nat.le_of_ble_eq_true rfl⟩) ⟨PR.blind, fun U hU hW => ⟨rfl, by rw [hU]; exact (hC.at hS hZ).warm hW, by rw [hU]; exact va_P_nil⟩⟩ rfl rfl hl.1 rfl (lv_room (Nat.le_of_ble_eq_true rfl)) dX2_waysToPave_16 ⟨Nat.le_of_ble_eq_true rfl, Nat.le_of_ble_eq_true rfl⟩) ?_
    refine lv_istore_n (lv' := [(3, .int r3), (0, .ref (A 0)), (1, .long a1)]) hx hb dX2_waysToPave_19 rfl hl (by decide) rfl (fun ls hl => ?_)
    refine lv_lload_n hx hb dX2_waysToPave_20 rfl (lv_at hl 2 rfl) ?_
    obtain ⟨r4, er4, h⟩ := obind h
    refine call_R (va_runS (As := [.long a1]) (rest := []) ⟨hx, hb, hml, hown, hts⟩ (c_J13_numberOfTrailingZeros_95d88 l z0 D t a1 _ er4) (kS hts qw285 qw286 qw22 qw287 ok_J13_numberOfTrailingZeros_95d88 ⟨Nat.le_of_ble_eq_true rfl, Nat.le_of_ble_eq_true rfl⟩) ⟨PR.blind, fun U hU hW => ⟨rfl, by rw [hU]; exact (hC.at hS hZ).warm hW, by rw [hU]; exact va_P_nil⟩⟩ rfl rfl hl.1 rfl (lv_room (Nat.le_of_ble_eq_true rfl)) dX2_waysToPave_21 ⟨Nat.le_of_ble_eq_true rfl, Nat.le_of_ble_eq_true rfl⟩) ?_
    refine lv_istore (lv' := [(4, .int r4), (3, .int r3), (0, .ref (A 0)), (1, .long a1)]) hx hb dX2_waysToPave_24 hl (by decide) rfl (fun ls hl => ?_)
    obtain ⟨o9, eo9, h⟩ := obind h
    have hL26 : ∀ (n : Nat) (y4_26 : Int32) (takes_26 : Nat → Int32) (u1_26 : Nat → Nat) (u2_26 : Nat → Nat) (hsz_26 : Int32) (hwin_26 : Nat → Int32) (hway_26 : Nat → Int32) (nsz_26 : Int32) (nwin_26 : Nat → Int32) (nway_26 : Nat → Int32) (o9 : (Nat → Int32) × (Nat → Nat) × (Nat → Nat) × (Int32) × (Nat → Int32) × (Nat → Int32) × (Int32) × (Nat → Int32) × (Nat → Int32)), f_X2_waysToPave_L26 a1 μ r3 n y4_26 takes_26 u1_26 u2_26 hsz_26 hwin_26 hway_26 nsz_26 nwin_26 nway_26 = some o9 → (∀ (ls : Array Slot) (H : Heap) (locs : List Loc), lv_has ls 5 [(0, .ref (A 0))] → va_P D vwCl (VW A B t (v_rest μ, o9.1, o9.2.1, o9.2.2.1, o9.2.2.2.1, o9.2.2.2.2.1, o9.2.2.2.2.2.1, o9.2.2.2.2.2.2.1, o9.2.2.2.2.2.2.2.1, o9.2.2.2.2.2.2.2.2)) H → va_D (OA (VL A B μ) s.heap.size) (VW A B t (v_rest μ, o9.1, o9.2.1, o9.2.2.1, o9.2.2.2.1, o9.2.2.2.2.1, o9.2.2.2.2.2.1, o9.2.2.2.2.2.2.1, o9.2.2.2.2.2.2.2.1, o9.2.2.2.2.2.2.2.2)) → va_S (OA (VL A B μ) s.heap.size) s.heap H locs → W p l e (headSpec (ws_ yX2_waysToPave cX2_waysToPave 5 (some .int)) rm_X2_waysToPave).room s m ([.ref (A 0), .long a1] : List Value).toArray below meth c H locs 0 0 (MQ below (QM (some (.int res.1)) D (VW A B t (v_rest μ, res.2.1, res.2.2.1, res.2.2.2.1, res.2.2.2.2.1, res.2.2.2.2.2.1, res.2.2.2.2.2.2.1, res.2.2.2.2.2.2.2.1, res.2.2.2.2.2.2.2.2.1, res.2.2.2.2.2.2.2.2.2)) (VL A B μ) s.heap.size) ([.ref (A 0), .long a1] : List Value).toArray s 0 0 (OA (VL A B μ) s.heap.size)) (F0 m 45 ls [])) → ∀ (ls : Array Slot) (H : Heap) (locs : List Loc), lv_has ls 5 [(0, .ref (A 0)), (1, .long a1), (3, .int r3), (4, .int y4_26)] → va_P D vwCl (VW A B t (v_rest μ, takes_26, u1_26, u2_26, hsz_26, hwin_26, hway_26, nsz_26, nwin_26, nway_26)) H → va_D (OA (VL A B μ) s.heap.size) (VW A B t (v_rest μ, takes_26, u1_26, u2_26, hsz_26, hwin_26, hway_26, nsz_26, nwin_26, nway_26)) → va_S (OA (VL A B μ) s.heap.size) s.heap H locs → W p l e (headSpec (ws_ yX2_waysToPave cX2_waysToPave 5 (some .int)) rm_X2_waysToPave).room s m ([.ref (A 0), .long a1] : List Value).toArray below meth c H locs 0 0 (MQ below (QM (some (.int res.1)) D (VW A B t (v_rest μ, res.2.1, res.2.2.1, res.2.2.2.1, res.2.2.2.2.1, res.2.2.2.2.2.1, res.2.2.2.2.2.2.1, res.2.2.2.2.2.2.2.1, res.2.2.2.2.2.2.2.2.1, res.2.2.2.2.2.2.2.2.2)) (VL A B μ) s.heap.size) ([.ref (A 0), .long a1] : List Value).toArray s 0 0 (OA (VL A B μ) s.heap.size)) (F0 m 26 ls []) := by
      intro n
      induction n with
      | zero => intro y4_26 takes_26 u1_26 u2_26 hsz_26 hwin_26 hway_26 nsz_26 nwin_26 nway_26 o9 h; exact absurd h (fun z => by cases z)
      | succ n ih =>
        intro y4_26 takes_26 u1_26 u2_26 hsz_26 hwin_26 hway_26 nsz_26 nwin_26 nway_26 o9 h hK26 ls H locs hl hP hD hS
        replace h : f_X2_waysToPave_L26_b a1 μ r3 (f_X2_waysToPave_L26 a1 μ r3 n) y4_26 takes_26 u1_26 u2_26 hsz_26 hwin_26 hway_26 nsz_26 nwin_26 nway_26 = some o9 := h
        unfold f_X2_waysToPave_L26_b at h
        have hSz : s.heap.size ≤ H.size := hS.1
        refine lv_iload hx hb dX2_waysToPave_26 (lv_at hl 3 rfl) ?_
        refine lv_iload_n hx hb dX2_waysToPave_28 rfl (lv_at hl 2 rfl) ?_
        refine lv_icmp_ge (tgt := 45) hx hb dX2_waysToPave_29 (by decide) (fun hc => ?_) (fun hc => ?_)
        · have h := iteT hc h
          obtain rfl := Option.some.inj h
          exact hK26 ls H locs (lv_sub hl [0] rfl) hP hD hS
        · have h := iteF hc h
          refine lv_aload_n hx hb dX2_waysToPave_32 rfl (lv_at hl 0 rfl) ?_
          refine lv_lload_n hx hb dX2_waysToPave_33 rfl (lv_at hl 1 rfl) ?_
          refine lv_iload hx hb dX2_waysToPave_34 (lv_at hl 3 rfl) ?_
          obtain ⟨r10, er10, h⟩ := obind h
          refine call_M (va_runV (As := [.long a1, .int y4_26]) (rest := []) ⟨hx, hb, hml, hown, hts⟩ (c_X2_goOn l z0 D t A B (v_rest μ, takes_26, u1_26, u2_26, hsz_26, hwin_26, hway_26, nsz_26, nwin_26, nway_26) a1 y4_26 _ H.size er10) (kV hts qw291 qw293 qs3 qw6 qw294 ok_X2_goOn ⟨Nat.le_of_ble_eq_true rfl, Nat.le_of_ble_eq_true rfl⟩) ⟨PM.blind, va_recv hK hP (ci := 3) (q0 := 0) rfl rfl, fun U hU hW => ⟨rfl, by rw [hU]; exact (hC.at hS hZ).warm hW, by rw [hU], by rw [hU]; exact hP, ⟨hD.1, fun _ _ h9 => Or.inl (in_map (L := (VL A B (v_rest μ, takes_26, u1_26, u2_26, hsz_26, hwin_26, hway_26, nsz_26, nwin_26, nway_26))) rfl h9)⟩, fun q hq => hZ q (OA.ofD hD rfl hSz q hq)⟩⟩ rfl rfl hl.1 rfl (lv_room (Nat.le_of_ble_eq_true rfl)) dX2_waysToPave_36 ⟨Nat.le_of_ble_eq_true rfl, Nat.le_of_ble_eq_true rfl⟩) hS (OA.ofD hD rfl hSz) (fun H locs hP hD1 hS _ _ => ?_)
          have hP : va_P D vwCl (VW A B t (v_rest μ, r10.1, r10.2.1, r10.2.2.1, r10.2.2.2.1, r10.2.2.2.2.1, r10.2.2.2.2.2.1, r10.2.2.2.2.2.2.1, r10.2.2.2.2.2.2.2.1, r10.2.2.2.2.2.2.2.2)) H := hP
          have hD : va_D (OA (VL A B μ) s.heap.size) (VW A B t (v_rest μ, r10.1, r10.2.1, r10.2.2.1, r10.2.2.2.1, r10.2.2.2.2.1, r10.2.2.2.2.2.1, r10.2.2.2.2.2.2.1, r10.2.2.2.2.2.2.2.1, r10.2.2.2.2.2.2.2.2)) := hD1.weaken (fun _ q _ h9 => OA.ofD hD rfl hSz q.1 h9)
          have hSz : s.heap.size ≤ H.size := hS.1
          obtain ⟨x11, ex11, h⟩ := jlet_some h
          refine lv_iinc (v := x11) (lv' := [(4, .int x11), (0, .ref (A 0)), (1, .long a1), (3, .int r3)]) hx hb dX2_waysToPave_39 hl (k := 3) rfl (by rw [ex11]; rfl) (by decide) rfl (fun ls hl => ?_)
          refine lv_goto (tgt := 26) hx hb dX2_waysToPave_42 (by decide) ?_
          exact ih _ _ _ _ _ _ _ _ _ _ _ h hK26 ls H locs (lv_sub hl [1, 2, 3, 0] rfl) hP hD hS
    refine hL26 _ _ _ _ _ _ _ _ _ _ _ _ eo9 (fun ls H locs hl hP hD hS => ?_) ls H locs (lv_sub hl [2, 3, 1, 0] rfl) hP hD hS
    have hSz : s.heap.size ≤ H.size := hS.1
    refine lv_aload_n hx hb dX2_waysToPave_45 rfl (lv_at hl 0 rfl) ?_
    refine va_get hx hb hts inX2 hown hK hP 0 rfl rfl 2 (by decide) (hts _ qw103) (fun _ h9 => h9) rfl dX2_waysToPave_46 ?_
    refine lv_iconst (v := (0)) hx hb dX2_waysToPave_49 (by decide) ?_
    obtain ⟨r12, er12, h⟩ := obind h
    refine call_R (va_runV (As := [.int (0 : Int32)]) (rest := []) ⟨hx, hb, hml, hown, hts⟩ (c_X6_waysTo l z0 D t o9.2.1 (o9.2.2.2.1, o9.2.2.2.2.1, o9.2.2.2.2.2.1) (0 : Int32) _ er12) (kV hts qw324 qw325 qw326 qw7 qw327 ok_X6_waysTo ⟨Nat.le_of_ble_eq_true rfl, Nat.le_of_ble_eq_true rfl⟩) ⟨PR.blind, va_recv hK (sub_V_RE_h (μ := (v_rest μ, o9.1, o9.2.1, o9.2.2.1, o9.2.2.2.1, o9.2.2.2.2.1, o9.2.2.2.2.2.1, o9.2.2.2.2.2.2.1, o9.2.2.2.2.2.2.2.1, o9.2.2.2.2.2.2.2.2)) hP) (ci := 6) (q0 := 0) rfl rfl, fun U hU hW => ⟨rfl, by rw [hU]; exact (hC.at hS hZ).warm hW, by rw [hU]; exact (sub_V_RE_h (μ := (v_rest μ, o9.1, o9.2.1, o9.2.2.1, o9.2.2.2.1, o9.2.2.2.2.1, o9.2.2.2.2.2.1, o9.2.2.2.2.2.2.1, o9.2.2.2.2.2.2.2.1, o9.2.2.2.2.2.2.2.2)) hP)⟩⟩ rfl rfl hl.1 rfl (lv_room (Nat.le_of_ble_eq_true rfl)) dX2_waysToPave_50 ⟨Nat.le_of_ble_eq_true rfl, Nat.le_of_ble_eq_true rfl⟩) ?_
    obtain rfl := Option.some.inj h
    exact W.iret hx hb hr (fun t ht hW => ⟨rfl, by rw [ht]; exact hP, hD, hS.F ht⟩) hS.2.2 dX2_waysToPave_53
  · have h := iteF hc h
    refine lv_iconst (v := (0)) hx hb dX2_waysToPave_9 (by decide) ?_
    obtain rfl := Option.some.inj h
    exact W.iret hx hb hr (fun t ht hW => ⟨rfl, by rw [ht]; exact hP, hD, hS.F ht⟩) hS.2.2 dX2_waysToPave_10

abbrev rm_X2_restOf : Room := { frames := 1, cells := 0, slots := 0, locals := 40 }
theorem ok_X2_restOf : okY yX2_restOf 1 := ⟨by decide +kernel, by decide +kernel, by decide +kernel⟩
set_option maxHeartbeats 4000000 in
set_option maxRecDepth 100000 in
theorem c_X2_restOf (l : Launch) (z0 : Nat) (D : va_G) (t : Nat → ClassId) (A : Nat → Nat) (B : Nat → Nat) (μ : VS) (a1 : Int32) (res : Nat) (h : f_X2_restOf μ a1 = some res) : Met l yX2_restOf (ws_ yX2_restOf cX2_restOf 2 (some (.array .int))) rm_X2_restOf (PR z0 D t [.ref (A 0), .int a1] (VW A B t μ)) (QR (some (.ref (B res)))) 0 0 FN := by
  refine Met.ofW (cc := cX2_restOf) (maxL := 2) (ret := (some (.array .int))) (by decide) rfl ?_
  intro p e s m args below meth c s₁ Bo hml hv
  obtain ⟨rfl, hC, hP⟩ := hv
  have hx := Bo.exec
  have hb := Bo.bytes
  have hr := Bo.returns
  have hts : ∀ w ∈ LA, w.before _ s = true := fun w hw => atoms_spec (ws := ws_ yX2_restOf cX2_restOf 2 (some (.array .int))) Bo.pre w (List.mem_cons_of_mem _ hw)
  have hown : s.vm.findClass RX2 = some m.cls := findClass_of_methodNamed Bo.named
  have hlocks := Bo.notSynchronized
  have hK := hC.1
  have hl := lv_entry ([.ref (A 0), .int a1]) (n := 2) (Nat.le_of_ble_eq_true rfl)
  rw [lg_entry_eq]
  generalize (lg_sl ([.ref (A 0), .int a1]) ++ List.replicate (2 - (lg_sl ([.ref (A 0), .int a1])).length) Slot.unset).toArray = ls at hl ⊢
  have hl : lv_has ls 2 [(0, .ref (A 0)), (1, .int a1)] := hl
  unfold f_X2_restOf at h
  refine lv_aload_n hx hb dX2_restOf_0 rfl (lv_at hl 0 rfl) ?_
  refine va_get hx hb hts inX2 hown hK hP 0 rfl rfl 0 (by decide) (hts _ qw101) (fun _ h9 => h9) rfl dX2_restOf_1 ?_
  refine lv_iconst (v := (0)) hx hb dX2_restOf_4 (by decide) ?_
  refine lv_iload_n hx hb dX2_restOf_5 rfl (lv_at hl 1 rfl) ?_
  refine lv_bipush (v := (64)) hx hb dX2_restOf_6 (by decide) ?_
  refine va_mmin hx hb (hml.trans hl.1.symm) hown (hts _ qw345) (hts _ qw346) (hts _ qw18) (hts _ qw347) (Nat.le_of_ble_eq_true rfl) (Nat.le_of_ble_eq_true rfl) (Nat.le_of_ble_eq_true rfl) (Nat.le_of_ble_eq_true rfl) dX2_restOf_8 ?_
  refine va_mmax hx hb (hml.trans hl.1.symm) hown (hts _ qw348) (hts _ qw349) (hts _ qw18) (hts _ qw350) (Nat.le_of_ble_eq_true rfl) (Nat.le_of_ble_eq_true rfl) (Nat.le_of_ble_eq_true rfl) (Nat.le_of_ble_eq_true rfl) dX2_restOf_11 ?_
  obtain ⟨k1, ek1, h⟩ := obind h
  refine k_aaldR hx hb hK hP 2 rfl ek1 dX2_restOf_14 ?_
  obtain rfl := Option.some.inj h
  exact W.aret hx hb hr (Or.inr ⟨_, rfl⟩) (Or.inr ⟨_, rfl⟩) (fun t ht hW => ⟨rfl, ht⟩) (fun q hq => absurd hq List.not_mem_nil) dX2_restOf_15

abbrev rm_J7_fill_53178 : Room := { frames := 0, cells := 0, slots := 0, locals := 0 }
theorem ok_J7_fill_53178 : okY yJ7_fill_53178 2 := ⟨by decide +kernel, by decide +kernel, by decide +kernel⟩
set_option maxHeartbeats 4000000 in
set_option maxRecDepth 100000 in
theorem c_J7_fill_53178 (l : Launch) (z0 : Nat) (D : va_G) (t : Nat → ClassId) (a0 : Nat) (μ : FS) (a2 : Int32) (res : (Nat → Int32)) (sz : Nat) (h : f_J7_fill_53178 μ a2 = some res) : Met l yJ7_fill_53178 (ws_ yJ7_fill_53178 cJ7_fill_53178 4 none) rm_J7_fill_53178 (PM z0 D t [.ref a0, .int a2] (FW a0 t μ) (FL a0) sz) (QM none D (FW a0 t res) (FL a0) sz) 0 0 (OA (FL a0) sz) := by
  refine Met.ofW (cc := cJ7_fill_53178) (maxL := 4) (ret := none) (by decide) rfl ?_
  intro p e s m args below meth c s₁ Bo hml hv
  obtain ⟨rfl, hC, hsz, hP, hD, hZ⟩ := hv
  have hx := Bo.exec
  have hb := Bo.bytes
  have hr := Bo.returns
  have hts : ∀ w ∈ LA, w.before _ s = true := fun w hw => atoms_spec (ws := ws_ yJ7_fill_53178 cJ7_fill_53178 4 none) Bo.pre w (List.mem_cons_of_mem _ hw)
  have hown : s.vm.findClass RJ7 = some m.cls := findClass_of_methodNamed Bo.named
  have hlocks := Bo.notSynchronized
  have hK := hC.1
  subst hsz
  have hl := lv_entry ([.ref a0, .int a2]) (n := 4) (Nat.le_of_ble_eq_true rfl)
  rw [lg_entry_eq]
  generalize (lg_sl ([.ref a0, .int a2]) ++ List.replicate (4 - (lg_sl ([.ref a0, .int a2])).length) Slot.unset).toArray = ls at hl ⊢
  have hl : lv_has ls 4 [(0, .ref a0), (1, .int a2)] := hl
  suffices K9 : ∀ (H : Heap) (locs : List Loc), va_P D vwCl (FW a0 t μ) H → va_S (OA (FL a0) s.heap.size) s.heap H locs → W p l e (headSpec (ws_ yJ7_fill_53178 cJ7_fill_53178 4 none) rm_J7_fill_53178).room s m ([.ref a0, .int a2] : List Value).toArray below meth c H locs 0 0 (MQ below (QM none D (FW a0 t res) (FL a0) s.heap.size) ([.ref a0, .int a2] : List Value).toArray s 0 0 (OA (FL a0) s.heap.size)) (F0 m 0 ls []) from K9 s.heap [] hP va_S.rf
  intro H locs hP hS
  have hSz : s.heap.size ≤ H.size := hS.1
  unfold f_J7_fill_53178 at h
  refine lv_iconst (v := (0)) hx hb dJ7_fill_53178_0 (by decide) ?_
  refine lv_istore_n (lv' := [(2, .int (0 : Int32)), (0, .ref a0), (1, .int a2)]) hx hb dJ7_fill_53178_1 rfl hl (by decide) rfl (fun ls hl => ?_)
  refine lv_aload_n hx hb dJ7_fill_53178_2 rfl (lv_at hl 1 rfl) ?_
  refine va_alen hx hb hK hP 0 0 rfl rfl (v := 512) rfl dJ7_fill_53178_3 ?_
  refine lv_istore_n (lv' := [(3, .int (512 : Int32)), (2, .int (0 : Int32)), (0, .ref a0), (1, .int a2)]) hx hb dJ7_fill_53178_4 rfl hl (by decide) rfl (fun ls hl => ?_)
  obtain ⟨o5, eo5, h⟩ := obind h
  have hL5 : ∀ (n : Nat) (y2_5 : Int32) (arr_5 : Nat → Int32) (o5 : (Nat → Int32)), f_J7_fill_53178_L5 a2 n y2_5 arr_5 = some o5 → (∀ (ls : Array Slot) (H : Heap) (locs : List Loc), lv_has ls 4 [] → va_P D vwCl (FW a0 t o5) H → va_D (OA (FL a0) s.heap.size) (FW a0 t o5) → va_S (OA (FL a0) s.heap.size) s.heap H locs → W p l e (headSpec (ws_ yJ7_fill_53178 cJ7_fill_53178 4 none) rm_J7_fill_53178).room s m ([.ref a0, .int a2] : List Value).toArray below meth c H locs 0 0 (MQ below (QM none D (FW a0 t res) (FL a0) s.heap.size) ([.ref a0, .int a2] : List Value).toArray s 0 0 (OA (FL a0) s.heap.size)) (F0 m 20 ls [])) → ∀ (ls : Array Slot) (H : Heap) (locs : List Loc), lv_has ls 4 [(0, .ref a0), (1, .int a2), (2, .int y2_5), (3, .int (512 : Int32))] → va_P D vwCl (FW a0 t arr_5) H → va_D (OA (FL a0) s.heap.size) (FW a0 t arr_5) → va_S (OA (FL a0) s.heap.size) s.heap H locs → W p l e (headSpec (ws_ yJ7_fill_53178 cJ7_fill_53178 4 none) rm_J7_fill_53178).room s m ([.ref a0, .int a2] : List Value).toArray below meth c H locs 0 0 (MQ below (QM none D (FW a0 t res) (FL a0) s.heap.size) ([.ref a0, .int a2] : List Value).toArray s 0 0 (OA (FL a0) s.heap.size)) (F0 m 5 ls []) := by
    intro n
    induction n with
    | zero => intro y2_5 arr_5 o5 h; exact absurd h (fun z => by cases z)
    | succ n ih =>
      intro y2_5 arr_5 o5 h hK5 ls H locs hl hP hD hS
      replace h : f_J7_fill_53178_L5_b a2 (f_J7_fill_53178_L5 a2 n) y2_5 arr_5 = some o5 := h
      unfold f_J7_fill_53178_L5_b at h
      have hSz : s.heap.size ≤ H.size := hS.1
      refine lv_iload_n hx hb dJ7_fill_53178_5 rfl (lv_at hl 2 rfl) ?_
      refine lv_iload_n hx hb dJ7_fill_53178_6 rfl (lv_at hl 3 rfl) ?_
      refine lv_icmp_ge (tgt := 20) hx hb dJ7_fill_53178_7 (by decide) (fun hc => ?_) (fun hc => ?_)
      · have h := iteT hc h
        obtain rfl := Option.some.inj h
        exact hK5 ls H locs (lv_sub hl [] rfl) hP hD hS
      · have h := iteF hc h
        refine lv_aload_n hx hb dJ7_fill_53178_10 rfl (lv_at hl 0 rfl) ?_
        refine lv_iload_n hx hb dJ7_fill_53178_11 rfl (lv_at hl 2 rfl) ?_
        refine lv_iload_n hx hb dJ7_fill_53178_12 rfl (lv_at hl 1 rfl) ?_
        obtain ⟨f6, ef6, h⟩ := obind h
        refine k_iast (ws' := (FW a0 t f6)) hx hb hK hP hD hS 0 rfl ef6 rfl dJ7_fill_53178_13 (fun H locs hP hD hS => ?_)
        have hSz : s.heap.size ≤ H.size := hS.1
        obtain ⟨x7, ex7, h⟩ := jlet_some h
        refine lv_iinc (v := x7) (lv' := [(2, .int x7), (0, .ref a0), (1, .int a2), (3, .int (512 : Int32))]) hx hb dJ7_fill_53178_14 hl (k := 2) rfl (by rw [ex7]; rfl) (by decide) rfl (fun ls hl => ?_)
        refine lv_goto (tgt := 5) hx hb dJ7_fill_53178_17 (by decide) ?_
        exact ih _ _ _ h hK5 ls H locs (lv_sub hl [1, 2, 0, 3] rfl) hP hD hS
  refine hL5 _ _ _ _ eo5 (fun ls H locs hl hP hD hS => ?_) ls H locs (lv_sub hl [2, 3, 1, 0] rfl) hP hD hS
  have hSz : s.heap.size ≤ H.size := hS.1
  obtain rfl := Option.some.inj h
  exact W.vret hx hb hr (fun t ht hW => ⟨rfl, by rw [ht]; exact hP, hD, hS.F ht⟩) hS.2.2 dJ7_fill_53178_20

abbrev rm_X2_countTurns : Room := { frames := 1, cells := 0, slots := 0, locals := 22 }
theorem ok_X2_countTurns : okY yX2_countTurns 2 := ⟨by decide +kernel, by decide +kernel, by decide +kernel⟩
set_option maxHeartbeats 4000000 in
set_option maxRecDepth 100000 in
theorem c_X2_countTurns (l : Launch) (z0 : Nat) (D : va_G) (t : Nat → ClassId) (A : Nat → Nat) (n0 : Nat) (μ : PNS) (a1 : Int32) (res : Int32) (h : f_X2_countTurns μ a1 = some res) : Met l yX2_countTurns (ws_ yX2_countTurns cX2_countTurns 5 (some .int)) rm_X2_countTurns (PR z0 D t [.ref (A 0), .int a1, .ref n0] (PNW A n0 t μ)) (QR (some (.int res))) 0 0 FN := by
  refine Met.ofW (cc := cX2_countTurns) (maxL := 5) (ret := (some .int)) (by decide) rfl ?_
  intro p e s m args below meth c s₁ Bo hml hv
  obtain ⟨rfl, hC, hP⟩ := hv
  have hx := Bo.exec
  have hb := Bo.bytes
  have hr := Bo.returns
  have hts : ∀ w ∈ LA, w.before _ s = true := fun w hw => atoms_spec (ws := ws_ yX2_countTurns cX2_countTurns 5 (some .int)) Bo.pre w (List.mem_cons_of_mem _ hw)
  have hown : s.vm.findClass RX2 = some m.cls := findClass_of_methodNamed Bo.named
  have hlocks := Bo.notSynchronized
  have hK := hC.1
  have hl := lv_entry ([.ref (A 0), .int a1, .ref n0]) (n := 5) (Nat.le_of_ble_eq_true rfl)
  rw [lg_entry_eq]
  generalize (lg_sl ([.ref (A 0), .int a1, .ref n0]) ++ List.replicate (5 - (lg_sl ([.ref (A 0), .int a1, .ref n0])).length) Slot.unset).toArray = ls at hl ⊢
  have hl : lv_has ls 5 [(0, .ref (A 0)), (1, .int a1), (2, .ref n0)] := hl
  unfold f_X2_countTurns at h
  refine lv_iconst (v := (0)) hx hb dX2_countTurns_0 (by decide) ?_
  refine lv_istore_n (lv' := [(3, .int (0 : Int32)), (0, .ref (A 0)), (1, .int a1), (2, .ref n0)]) hx hb dX2_countTurns_1 rfl hl (by decide) rfl (fun ls hl => ?_)
  refine lv_iconst (v := (0)) hx hb dX2_countTurns_2 (by decide) ?_
  refine lv_istore (lv' := [(4, .int (0 : Int32)), (3, .int (0 : Int32)), (0, .ref (A 0)), (1, .int a1), (2, .ref n0)]) hx hb dX2_countTurns_3 hl (by decide) rfl (fun ls hl => ?_)
  obtain ⟨o19, eo19, h⟩ := obind h
  have hL5 : ∀ (n : Nat) (y3_5 : Int32) (y4_5 : Int32) (o19 : Int32), f_X2_countTurns_L5 a1 μ n y3_5 y4_5 = some o19 → (∀ (ls : Array Slot), lv_has ls 5 [(3, .int o19)] → W p l e (headSpec (ws_ yX2_countTurns cX2_countTurns 5 (some .int)) rm_X2_countTurns).room s m ([.ref (A 0), .int a1, .ref n0] : List Value).toArray below meth c s.heap [] 0 0 (MQ below (QR (some (.int res))) ([.ref (A 0), .int a1, .ref n0] : List Value).toArray s 0 0 FN) (F0 m 39 ls [])) → ∀ (ls : Array Slot), lv_has ls 5 [(0, .ref (A 0)), (1, .int a1), (2, .ref n0), (3, .int y3_5), (4, .int y4_5)] → W p l e (headSpec (ws_ yX2_countTurns cX2_countTurns 5 (some .int)) rm_X2_countTurns).room s m ([.ref (A 0), .int a1, .ref n0] : List Value).toArray below meth c s.heap [] 0 0 (MQ below (QR (some (.int res))) ([.ref (A 0), .int a1, .ref n0] : List Value).toArray s 0 0 FN) (F0 m 5 ls []) := by
    intro n
    induction n with
    | zero => intro y3_5 y4_5 o19 h; exact absurd h (fun z => by cases z)
    | succ n ih =>
      intro y3_5 y4_5 o19 h hK5 ls hl
      replace h : f_X2_countTurns_L5_b a1 μ (f_X2_countTurns_L5 a1 μ n) y3_5 y4_5 = some o19 := h
      unfold f_X2_countTurns_L5_b at h
      refine lv_iload hx hb dX2_countTurns_5 (lv_at hl 4 rfl) ?_
      refine lv_iconst (v := (4)) hx hb dX2_countTurns_7 (by decide) ?_
      refine lv_icmp_ge (tgt := 39) hx hb dX2_countTurns_8 (by decide) (fun hc => ?_) (fun hc => ?_)
      · have h := iteT hc h
        obtain rfl := Option.some.inj h
        exact hK5 ls (lv_sub hl [3] rfl)
      · have h := iteF hc h
        refine lv_aload_n hx hb dX2_countTurns_11 rfl (lv_at hl 0 rfl) ?_
        refine lv_iload hx hb dX2_countTurns_12 (lv_at hl 4 rfl) ?_
        refine lv_iload_n hx hb dX2_countTurns_14 rfl (lv_at hl 1 rfl) ?_
        obtain ⟨r20, er20, h⟩ := obind h
        refine call_R (va_runV (As := [.int y4_5, .int a1]) (rest := []) ⟨hx, hb, hml, hown, hts⟩ (c_X2_isOpen l z0 D t A ((pn_takes μ), (pn_u1 μ), (pn_u2 μ)) y4_5 a1 _ er20) (kV hts qw316 qw318 qs6 qw6 qw319 ok_X2_isOpen ⟨Nat.le_of_ble_eq_true rfl, Nat.le_of_ble_eq_true rfl⟩) ⟨PR.blind, va_recv hK (sub_PN_P (μ := μ) hP) (ci := 3) (q0 := 0) rfl rfl, fun U hU hW => ⟨rfl, by rw [hU]; exact hC.warm hW, by rw [hU]; exact (sub_PN_P (μ := μ) hP)⟩⟩ rfl rfl hl.1 rfl (lv_room (Nat.le_of_ble_eq_true rfl)) dX2_countTurns_15 ⟨Nat.le_of_ble_eq_true rfl, Nat.le_of_ble_eq_true rfl⟩) ?_
        obtain ⟨o24, eo24, h⟩ := obind h
        have hJ33_o24 : ∀ ls : Array Slot, lv_has ls 5 [(0, .ref (A 0)), (1, .int a1), (2, .ref n0), (3, .int o24), (4, .int y4_5)] → W p l e (headSpec (ws_ yX2_countTurns cX2_countTurns 5 (some .int)) rm_X2_countTurns).room s m ([.ref (A 0), .int a1, .ref n0] : List Value).toArray below meth c s.heap [] 0 0 (MQ below (QR (some (.int res))) ([.ref (A 0), .int a1, .ref n0] : List Value).toArray s 0 0 FN) (F0 m 33 ls []) := by
          intro ls hl
          obtain ⟨x28, ex28, h⟩ := jlet_some h
          refine lv_iinc (v := x28) (lv' := [(4, .int x28), (0, .ref (A 0)), (1, .int a1), (2, .ref n0), (3, .int o24)]) hx hb dX2_countTurns_33 hl (k := 4) rfl (by rw [ex28]; rfl) (by decide) rfl (fun ls hl => ?_)
          refine lv_goto (tgt := 5) hx hb dX2_countTurns_36 (by decide) ?_
          exact ih _ _ _ h hK5 ls (lv_sub hl [1, 2, 3, 4, 0] rfl)
        have h := eo24
        clear eo24
        refine lv_if_eq (tgt := 33) hx hb dX2_countTurns_18 (by decide) (fun hc => ?_) (fun hc => ?_)
        · have h := iteT hc h
          obtain rfl := Option.some.inj h
          exact hJ33_o24 ls (lv_sub hl [0, 1, 2, 3, 4] rfl)
        · have h := iteF hc h
          refine lv_iload_n hx hb dX2_countTurns_21 rfl (lv_at hl 3 rfl) ?_
          refine lv_aload_n hx hb dX2_countTurns_22 rfl (lv_at hl 2 rfl) ?_
          refine lv_aload_n hx hb dX2_countTurns_23 rfl (lv_at hl 0 rfl) ?_
          refine lv_iload hx hb dX2_countTurns_24 (lv_at hl 4 rfl) ?_
          refine lv_iload_n hx hb dX2_countTurns_26 rfl (lv_at hl 1 rfl) ?_
          obtain ⟨r25, er25, h⟩ := obind h
          refine call_R (va_runV (As := [.int y4_5, .int a1]) (rest := [.ref n0, .int y3_5]) ⟨hx, hb, hml, hown, hts⟩ (c_X2_windowAfter l z0 D t A ((pn_takes μ), (pn_u1 μ), (pn_u2 μ)) y4_5 a1 _ er25) (kV hts qw320 qw322 qs7 qw6 qw323 ok_X2_windowAfter ⟨Nat.le_of_ble_eq_true rfl, Nat.le_of_ble_eq_true rfl⟩) ⟨PR.blind, va_recv hK (sub_PN_P (μ := μ) hP) (ci := 3) (q0 := 0) rfl rfl, fun U hU hW => ⟨rfl, by rw [hU]; exact hC.warm hW, by rw [hU]; exact (sub_PN_P (μ := μ) hP)⟩⟩ rfl rfl hl.1 rfl (lv_room (Nat.le_of_ble_eq_true rfl)) dX2_countTurns_27 ⟨Nat.le_of_ble_eq_true rfl, Nat.le_of_ble_eq_true rfl⟩) ?_
          obtain ⟨v26, ev26, h⟩ := obind h
          refine k_iald hx hb hK hP 2 rfl ev26 dX2_countTurns_30 ?_
          refine lv_iadd hx hb dX2_countTurns_31 ?_
          obtain ⟨x27, ex27, h⟩ := jlet_some h
          refine topI ex27 ?_
          refine lv_istore_n (lv' := [(3, .int x27), (0, .ref (A 0)), (1, .int a1), (2, .ref n0), (4, .int y4_5)]) hx hb dX2_countTurns_32 rfl hl (by decide) rfl (fun ls hl => ?_)
          obtain rfl := Option.some.inj h
          exact hJ33_o24 ls (lv_sub hl [1, 2, 3, 0, 4] rfl)
  refine hL5 _ _ _ _ eo19 (fun ls hl => ?_) ls (lv_sub hl [2, 3, 4, 1, 0] rfl)
  refine lv_iload_n hx hb dX2_countTurns_39 rfl (lv_at hl 0 rfl) ?_
  obtain rfl := Option.some.inj h
  exact W.iret hx hb hr (fun t ht hW => ⟨rfl, ht⟩) (fun q hq => absurd hq List.not_mem_nil) dX2_countTurns_40

abbrev rm_X2_countPlace : Room := { frames := 2, cells := 0, slots := 0, locals := 46 }
theorem ok_X2_countPlace : okY yX2_countPlace 3 := ⟨by decide +kernel, by decide +kernel, by decide +kernel⟩
set_option maxHeartbeats 4000000 in
set_option maxRecDepth 100000 in
theorem c_X2_countPlace (l : Launch) (z0 : Nat) (D : va_G) (t : Nat → ClassId) (A : Nat → Nat) (h0 : Nat) (n0 : Nat) (μ : PHS) (a1 : Int32) (res : (Nat → Int32)) (sz : Nat) (h : f_X2_countPlace μ a1 = some res) : Met l yX2_countPlace (ws_ yX2_countPlace cX2_countPlace 5 none) rm_X2_countPlace (PM z0 D t [.ref (A 0), .int a1, .ref h0, .ref n0] (PHW A h0 n0 t μ) (PHL A h0 n0) sz) (QM none D (PHW A h0 n0 t (ph_hr' μ res)) (PHL A h0 n0) sz) 0 0 (OA (PHL A h0 n0) sz) := by
  refine Met.ofW (cc := cX2_countPlace) (maxL := 5) (ret := none) (by decide) rfl ?_
  intro p e s m args below meth c s₁ Bo hml hv
  obtain ⟨rfl, hC, hsz, hP, hD, hZ⟩ := hv
  have hx := Bo.exec
  have hb := Bo.bytes
  have hr := Bo.returns
  have hts : ∀ w ∈ LA, w.before _ s = true := fun w hw => atoms_spec (ws := ws_ yX2_countPlace cX2_countPlace 5 none) Bo.pre w (List.mem_cons_of_mem _ hw)
  have hown : s.vm.findClass RX2 = some m.cls := findClass_of_methodNamed Bo.named
  have hlocks := Bo.notSynchronized
  have hK := hC.1
  subst hsz
  have hl := lv_entry ([.ref (A 0), .int a1, .ref h0, .ref n0]) (n := 5) (Nat.le_of_ble_eq_true rfl)
  rw [lg_entry_eq]
  generalize (lg_sl ([.ref (A 0), .int a1, .ref h0, .ref n0]) ++ List.replicate (5 - (lg_sl ([.ref (A 0), .int a1, .ref h0, .ref n0])).length) Slot.unset).toArray = ls at hl ⊢
  have hl : lv_has ls 5 [(0, .ref (A 0)), (1, .int a1), (2, .ref h0), (3, .ref n0)] := hl
  suffices K9 : ∀ (H : Heap) (locs : List Loc), va_P D vwCl (PHW A h0 n0 t μ) H → va_S (OA (PHL A h0 n0) s.heap.size) s.heap H locs → W p l e (headSpec (ws_ yX2_countPlace cX2_countPlace 5 none) rm_X2_countPlace).room s m ([.ref (A 0), .int a1, .ref h0, .ref n0] : List Value).toArray below meth c H locs 0 0 (MQ below (QM none D (PHW A h0 n0 t (ph_hr' μ res)) (PHL A h0 n0) s.heap.size) ([.ref (A 0), .int a1, .ref h0, .ref n0] : List Value).toArray s 0 0 (OA (PHL A h0 n0) s.heap.size)) (F0 m 0 ls []) from K9 s.heap [] hP va_S.rf
  intro H locs hP hS
  have hSz : s.heap.size ≤ H.size := hS.1
  unfold f_X2_countPlace at h
  refine lv_iconst (v := (0)) hx hb dX2_countPlace_0 (by decide) ?_
  refine lv_istore (lv' := [(4, .int (0 : Int32)), (0, .ref (A 0)), (1, .int a1), (2, .ref h0), (3, .ref n0)]) hx hb dX2_countPlace_1 hl (by decide) rfl (fun ls hl => ?_)
  obtain ⟨o29, eo29, h⟩ := obind h
  have hL3 : ∀ (n : Nat) (y4_3 : Int32) (hr_3 : Nat → Int32) (o29 : (Nat → Int32)), f_X2_countPlace_L3 a1 μ n y4_3 hr_3 = some o29 → (∀ (ls : Array Slot) (H : Heap) (locs : List Loc), lv_has ls 5 [] → va_P D vwCl (PHW A h0 n0 t (ph_hr' μ o29)) H → va_D (OA (PHL A h0 n0) s.heap.size) (PHW A h0 n0 t (ph_hr' μ o29)) → va_S (OA (PHL A h0 n0) s.heap.size) s.heap H locs → W p l e (headSpec (ws_ yX2_countPlace cX2_countPlace 5 none) rm_X2_countPlace).room s m ([.ref (A 0), .int a1, .ref h0, .ref n0] : List Value).toArray below meth c H locs 0 0 (MQ below (QM none D (PHW A h0 n0 t (ph_hr' μ res)) (PHL A h0 n0) s.heap.size) ([.ref (A 0), .int a1, .ref h0, .ref n0] : List Value).toArray s 0 0 (OA (PHL A h0 n0) s.heap.size)) (F0 m 52 ls [])) → ∀ (ls : Array Slot) (H : Heap) (locs : List Loc), lv_has ls 5 [(0, .ref (A 0)), (1, .int a1), (2, .ref h0), (3, .ref n0), (4, .int y4_3)] → va_P D vwCl (PHW A h0 n0 t (ph_hr' μ hr_3)) H → va_D (OA (PHL A h0 n0) s.heap.size) (PHW A h0 n0 t (ph_hr' μ hr_3)) → va_S (OA (PHL A h0 n0) s.heap.size) s.heap H locs → W p l e (headSpec (ws_ yX2_countPlace cX2_countPlace 5 none) rm_X2_countPlace).room s m ([.ref (A 0), .int a1, .ref h0, .ref n0] : List Value).toArray below meth c H locs 0 0 (MQ below (QM none D (PHW A h0 n0 t (ph_hr' μ res)) (PHL A h0 n0) s.heap.size) ([.ref (A 0), .int a1, .ref h0, .ref n0] : List Value).toArray s 0 0 (OA (PHL A h0 n0) s.heap.size)) (F0 m 3 ls []) := by
    intro n
    induction n with
    | zero => intro y4_3 hr_3 o29 h; exact absurd h (fun z => by cases z)
    | succ n ih =>
      intro y4_3 hr_3 o29 h hK3 ls H locs hl hP hD hS
      replace h : f_X2_countPlace_L3_b a1 μ (f_X2_countPlace_L3 a1 μ n) y4_3 hr_3 = some o29 := h
      unfold f_X2_countPlace_L3_b at h
      have hSz : s.heap.size ≤ H.size := hS.1
      refine lv_iload hx hb dX2_countPlace_3 (lv_at hl 4 rfl) ?_
      refine lv_sipush (v := (512)) hx hb dX2_countPlace_5 (by decide) ?_
      refine lv_icmp_ge (tgt := 52) hx hb dX2_countPlace_8 (by decide) (fun hc => ?_) (fun hc => ?_)
      · have h := iteT hc h
        obtain rfl := Option.some.inj h
        exact hK3 ls H locs (lv_sub hl [] rfl) hP hD hS
      · have h := iteF hc h
        refine lv_iload_n hx hb dX2_countPlace_11 rfl (lv_at hl 1 rfl) ?_
        obtain ⟨o36, eo36, h⟩ := obind h
        have hJ46_o36 : ∀ (ls : Array Slot) (H : Heap) (locs : List Loc), lv_has ls 5 [(0, .ref (A 0)), (1, .int a1), (2, .ref h0), (3, .ref n0), (4, .int y4_3)] → va_P D vwCl (PHW A h0 n0 t (ph_hr' μ o36)) H → va_D (OA (PHL A h0 n0) s.heap.size) (PHW A h0 n0 t (ph_hr' μ o36)) → va_S (OA (PHL A h0 n0) s.heap.size) s.heap H locs → W p l e (headSpec (ws_ yX2_countPlace cX2_countPlace 5 none) rm_X2_countPlace).room s m ([.ref (A 0), .int a1, .ref h0, .ref n0] : List Value).toArray below meth c H locs 0 0 (MQ below (QM none D (PHW A h0 n0 t (ph_hr' μ res)) (PHL A h0 n0) s.heap.size) ([.ref (A 0), .int a1, .ref h0, .ref n0] : List Value).toArray s 0 0 (OA (PHL A h0 n0) s.heap.size)) (F0 m 46 ls []) := by
          intro ls H locs hl hP hD hS
          have hSz : s.heap.size ≤ H.size := hS.1
          obtain ⟨x43, ex43, h⟩ := jlet_some h
          refine lv_iinc (v := x43) (lv' := [(4, .int x43), (0, .ref (A 0)), (1, .int a1), (2, .ref h0), (3, .ref n0)]) hx hb dX2_countPlace_46 hl (k := 4) rfl (by rw [ex43]; rfl) (by decide) rfl (fun ls hl => ?_)
          refine lv_goto (tgt := 3) hx hb dX2_countPlace_49 (by decide) ?_
          exact ih _ _ _ h hK3 ls H locs (lv_sub hl [1, 2, 3, 4, 0] rfl) hP hD hS
        have h := eo36
        clear eo36
        refine lv_if_eq (tgt := 36) hx hb dX2_countPlace_12 (by decide) (fun hc => ?_) (fun hc => ?_)
        · have h := iteT hc h
          refine lv_aload_n hx hb dX2_countPlace_36 rfl (lv_at hl 2 rfl) ?_
          refine lv_iload hx hb dX2_countPlace_37 (lv_at hl 4 rfl) ?_
          refine lv_aload_n hx hb dX2_countPlace_39 rfl (lv_at hl 3 rfl) ?_
          refine lv_iload hx hb dX2_countPlace_40 (lv_at hl 4 rfl) ?_
          refine lv_iconst (v := (1)) hx hb dX2_countPlace_42 (by decide) ?_
          refine lv_ishr hx hb dX2_countPlace_43 ?_
          obtain ⟨v37, ev37, h⟩ := obind h
          refine k_iald hx hb hK hP 3 rfl ev37 dX2_countPlace_44 ?_
          obtain ⟨f38, ef38, h⟩ := obind h
          refine k_iast (ws' := (PHW A h0 n0 t (ph_hr' μ f38))) hx hb hK hP hD hS 2 rfl ef38 rfl dX2_countPlace_45 (fun H locs hP hD hS => ?_)
          have hSz : s.heap.size ≤ H.size := hS.1
          obtain rfl := Option.some.inj h
          exact hJ46_o36 ls H locs (lv_sub hl [0, 1, 2, 3, 4] rfl) hP hD hS
        · have h := iteF hc h
          refine lv_iload hx hb dX2_countPlace_15 (lv_at hl 4 rfl) ?_
          refine lv_iconst (v := (1)) hx hb dX2_countPlace_17 (by decide) ?_
          refine lv_iand hx hb dX2_countPlace_18 ?_
          refine lv_if_ne (tgt := 36) hx hb dX2_countPlace_19 (by decide) (fun hc => ?_) (fun hc => ?_)
          · have h := iteF hc h
            refine lv_aload_n hx hb dX2_countPlace_36 rfl (lv_at hl 2 rfl) ?_
            refine lv_iload hx hb dX2_countPlace_37 (lv_at hl 4 rfl) ?_
            refine lv_aload_n hx hb dX2_countPlace_39 rfl (lv_at hl 3 rfl) ?_
            refine lv_iload hx hb dX2_countPlace_40 (lv_at hl 4 rfl) ?_
            refine lv_iconst (v := (1)) hx hb dX2_countPlace_42 (by decide) ?_
            refine lv_ishr hx hb dX2_countPlace_43 ?_
            obtain ⟨v39, ev39, h⟩ := obind h
            refine k_iald hx hb hK hP 3 rfl ev39 dX2_countPlace_44 ?_
            obtain ⟨f40, ef40, h⟩ := obind h
            refine k_iast (ws' := (PHW A h0 n0 t (ph_hr' μ f40))) hx hb hK hP hD hS 2 rfl ef40 rfl dX2_countPlace_45 (fun H locs hP hD hS => ?_)
            have hSz : s.heap.size ≤ H.size := hS.1
            obtain rfl := Option.some.inj h
            exact hJ46_o36 ls H locs (lv_sub hl [0, 1, 2, 3, 4] rfl) hP hD hS
          · have h := iteT hc h
            refine lv_aload_n hx hb dX2_countPlace_22 rfl (lv_at hl 2 rfl) ?_
            refine lv_iload hx hb dX2_countPlace_23 (lv_at hl 4 rfl) ?_
            refine lv_aload_n hx hb dX2_countPlace_25 rfl (lv_at hl 0 rfl) ?_
            refine lv_iload hx hb dX2_countPlace_26 (lv_at hl 4 rfl) ?_
            refine lv_aload_n hx hb dX2_countPlace_28 rfl (lv_at hl 3 rfl) ?_
            obtain ⟨r41, er41, h⟩ := obind h
            refine call_R (va_runV (As := [.int y4_3, .ref n0]) (rest := [.int y4_3, .ref h0]) ⟨hx, hb, hml, hown, hts⟩ (c_X2_countTurns l z0 D t A n0 ((ph_takes μ), (ph_u1 μ), (ph_u2 μ), (ph_nx μ)) y4_3 _ er41) (kV hts qw358 qw360 qs11 qw6 qw361 ok_X2_countTurns ⟨Nat.le_of_ble_eq_true rfl, Nat.le_of_ble_eq_true rfl⟩) ⟨PR.blind, va_recv hK (sub_PH_PN (μ := ph_hr' μ hr_3) hP) (ci := 3) (q0 := 0) rfl rfl, fun U hU hW => ⟨rfl, by rw [hU]; exact (hC.at hS hZ).warm hW, by rw [hU]; exact (sub_PH_PN (μ := ph_hr' μ hr_3) hP)⟩⟩ rfl rfl hl.1 rfl (lv_room (Nat.le_of_ble_eq_true rfl)) dX2_countPlace_29 ⟨Nat.le_of_ble_eq_true rfl, Nat.le_of_ble_eq_true rfl⟩) ?_
            obtain ⟨f42, ef42, h⟩ := obind h
            refine k_iast (ws' := (PHW A h0 n0 t (ph_hr' μ f42))) hx hb hK hP hD hS 2 rfl ef42 rfl dX2_countPlace_32 (fun H locs hP hD hS => ?_)
            have hSz : s.heap.size ≤ H.size := hS.1
            refine lv_goto (tgt := 46) hx hb dX2_countPlace_33 (by decide) ?_
            obtain rfl := Option.some.inj h
            exact hJ46_o36 ls H locs (lv_sub hl [0, 1, 2, 3, 4] rfl) hP hD hS
  refine hL3 _ _ _ _ eo29 (fun ls H locs hl hP hD hS => ?_) ls H locs (lv_sub hl [1, 2, 3, 4, 0] rfl) hP hD hS
  have hSz : s.heap.size ≤ H.size := hS.1
  obtain rfl := Option.some.inj h
  exact W.vret hx hb hr (fun t ht hW => ⟨rfl, by rw [ht]; exact hP, hD, hS.F ht⟩) hS.2.2 dX2_countPlace_52
