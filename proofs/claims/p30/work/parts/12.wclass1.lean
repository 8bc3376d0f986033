abbrev rm_X0_codeAt : Room := { frames := 0, cells := 0, slots := 0, locals := 0 }
theorem ok_X0_codeAt : okY yX0_codeAt 1 := ⟨by decide +kernel, by decide +kernel, by decide +kernel⟩
set_option maxHeartbeats 4000000 in
set_option maxRecDepth 100000 in
theorem c_X0_codeAt (l : Launch) (z0 : Nat) (D : va_G) (t : Nat → ClassId) (E : Nat → Nat) (μ : BS) (a1 : Int32) (res : Int32) (h : f_X0_codeAt μ a1 = some res) : Met l yX0_codeAt (ws_ yX0_codeAt cX0_codeAt 2 (some .int)) rm_X0_codeAt (PR z0 D t [.ref (E 0), .int a1] (BW E t μ)) (QR (some (.int res))) 0 0 FN := by
  refine Met.ofW (cc := cX0_codeAt) (maxL := 2) (ret := (some .int)) (by decide) rfl ?_
  intro p e s m args below meth c s₁ Bo hml hv
  obtain ⟨rfl, hC, hP⟩ := hv
  have hx := Bo.exec
  have hb := Bo.bytes
  have hr := Bo.returns
  have hts : ∀ w ∈ LA, w.before _ s = true := fun w hw => atoms_spec (ws := ws_ yX0_codeAt cX0_codeAt 2 (some .int)) Bo.pre w (List.mem_cons_of_mem _ hw)
  have hown : s.vm.findClass RX0 = some m.cls := findClass_of_methodNamed Bo.named
  have hlocks := Bo.notSynchronized
  have hK := hC.1
  have hl := lv_entry ([.ref (E 0), .int a1]) (n := 2) (Nat.le_of_ble_eq_true rfl)
  rw [lg_entry_eq]
  generalize (lg_sl ([.ref (E 0), .int a1]) ++ List.replicate (2 - (lg_sl ([.ref (E 0), .int a1])).length) Slot.unset).toArray = ls at hl ⊢
  have hl : lv_has ls 2 [(0, .ref (E 0)), (1, .int a1)] := hl
  unfold f_X0_codeAt at h
  refine lv_iload_n hx hb dX0_codeAt_0 rfl (lv_at hl 1 rfl) ?_
  refine lv_if_lt (tgt := 30) hx hb dX0_codeAt_1 (by decide) (fun hc => ?_) (fun hc => ?_)
  · have h := iteT hc h
    refine lv_iconst (v := (0)) hx hb dX0_codeAt_30 (by decide) ?_
    obtain rfl := Option.some.inj h
    exact W.iret hx hb hr (fun t ht hW => ⟨rfl, ht⟩) (fun q hq => absurd hq List.not_mem_nil) dX0_codeAt_31
  · have h := iteF hc h
    refine lv_iload_n hx hb dX0_codeAt_4 rfl (lv_at hl 1 rfl) ?_
    refine lv_aload_n hx hb dX0_codeAt_5 rfl (lv_at hl 0 rfl) ?_
    refine va_get hx hb hts inX0 hown hK hP 0 rfl rfl 0 (by decide) (hts _ qw67) (fun _ h9 => h9) rfl dX0_codeAt_6 ?_
    refine lv_icmp_ge (tgt := 30) hx hb dX0_codeAt_9 (by decide) (fun hc => ?_) (fun hc => ?_)
    · have h := iteT hc h
      refine lv_iconst (v := (0)) hx hb dX0_codeAt_30 (by decide) ?_
      obtain rfl := Option.some.inj h
      exact W.iret hx hb hr (fun t ht hW => ⟨rfl, ht⟩) (fun q hq => absurd hq List.not_mem_nil) dX0_codeAt_31
    · have h := iteF hc h
      refine lv_iload_n hx hb dX0_codeAt_12 rfl (lv_at hl 1 rfl) ?_
      refine lv_aload_n hx hb dX0_codeAt_13 rfl (lv_at hl 0 rfl) ?_
      refine va_get hx hb hts inX0 hown hK hP 0 rfl rfl 1 (by decide) (hts _ qw69) (fun _ h9 => h9) rfl dX0_codeAt_14 ?_
      refine va_alen hx hb hK hP 1 0 rfl rfl (v := 71) rfl dX0_codeAt_17 ?_
      refine lv_icmp_ge (tgt := 30) hx hb dX0_codeAt_18 (by decide) (fun hc => ?_) (fun hc => ?_)
      · have h := iteT hc h
        refine lv_iconst (v := (0)) hx hb dX0_codeAt_30 (by decide) ?_
        obtain rfl := Option.some.inj h
        exact W.iret hx hb hr (fun t ht hW => ⟨rfl, ht⟩) (fun q hq => absurd hq List.not_mem_nil) dX0_codeAt_31
      · have h := iteF hc h
        refine lv_aload_n hx hb dX0_codeAt_21 rfl (lv_at hl 0 rfl) ?_
        refine va_get hx hb hts inX0 hown hK hP 0 rfl rfl 1 (by decide) (hts _ qw69) (fun _ h9 => h9) rfl dX0_codeAt_22 ?_
        refine lv_iload_n hx hb dX0_codeAt_25 rfl (lv_at hl 1 rfl) ?_
        obtain ⟨v1, ev1, h⟩ := obind h
        refine k_iald hx hb hK hP 1 rfl ev1 dX0_codeAt_26 ?_
        refine lv_goto (tgt := 31) hx hb dX0_codeAt_27 (by decide) ?_
        obtain rfl := Option.some.inj h
        exact W.iret hx hb hr (fun t ht hW => ⟨rfl, ht⟩) (fun q hq => absurd hq List.not_mem_nil) dX0_codeAt_31

abbrev rm_X3_isRowWhole : Room := { frames := 0, cells := 0, slots := 0, locals := 0 }
theorem ok_X3_isRowWhole : okY yX3_isRowWhole 0 := ⟨by decide +kernel, by decide +kernel, by decide +kernel⟩
set_option maxHeartbeats 4000000 in
set_option maxRecDepth 100000 in
theorem c_X3_isRowWhole (l : Launch) (z0 : Nat) (D : va_G) (t : Nat → ClassId) (r0 : Nat) (μ : RDS) (res : Int32) (h : f_X3_isRowWhole μ = some res) : Met l yX3_isRowWhole (ws_ yX3_isRowWhole cX3_isRowWhole 1 (some .boolean)) rm_X3_isRowWhole (PR z0 D t [.ref r0] (RDW r0 t μ)) (QR (some (.int res))) 0 0 FN := by
  refine Met.ofW (cc := cX3_isRowWhole) (maxL := 1) (ret := (some .boolean)) (by decide) rfl ?_
  intro p e s m args below meth c s₁ Bo hml hv
  obtain ⟨rfl, hC, hP⟩ := hv
  have hx := Bo.exec
  have hb := Bo.bytes
  have hr := Bo.returns
  have hts : ∀ w ∈ LA, w.before _ s = true := fun w hw => atoms_spec (ws := ws_ yX3_isRowWhole cX3_isRowWhole 1 (some .boolean)) Bo.pre w (List.mem_cons_of_mem _ hw)
  have hown : s.vm.findClass RX3 = some m.cls := findClass_of_methodNamed Bo.named
  have hlocks := Bo.notSynchronized
  have hK := hC.1
  have hl := lv_entry ([.ref r0]) (n := 1) (Nat.le_of_ble_eq_true rfl)
  rw [lg_entry_eq]
  generalize (lg_sl ([.ref r0]) ++ List.replicate (1 - (lg_sl ([.ref r0])).length) Slot.unset).toArray = ls at hl ⊢
  have hl : lv_has ls 1 [(0, .ref (r0))] := hl
  unfold f_X3_isRowWhole at h
  refine lv_aload_n hx hb dX3_isRowWhole_0 rfl (lv_at hl 0 rfl) ?_
  refine va_get hx hb hts inX3 hown hK hP 0 rfl rfl 1 (by decide) (hts _ qw183) (fun _ h9 => h9) rfl dX3_isRowWhole_1 ?_
  refine lv_if_ne (tgt := 23) hx hb dX3_isRowWhole_4 (by decide) (fun hc => ?_) (fun hc => ?_)
  · have h := iteF hc h
    refine lv_aload_n hx hb dX3_isRowWhole_23 rfl (lv_at hl 0 rfl) ?_
    refine va_get hx hb hts inX3 hown hK hP 0 rfl rfl 4 (by decide) (hts _ qw189) (fun _ h9 => h9) rfl dX3_isRowWhole_24 ?_
    refine lv_aload_n hx hb dX3_isRowWhole_27 rfl (lv_at hl 0 rfl) ?_
    refine va_get hx hb hts inX3 hown hK hP 0 rfl rfl 0 (by decide) (hts _ qw181) (fun _ h9 => h9) rfl dX3_isRowWhole_28 ?_
    refine lv_icmp_ne (tgt := 38) hx hb dX3_isRowWhole_31 (by decide) (fun hc => ?_) (fun hc => ?_)
    · have h := iteF hc h
      refine lv_iconst (v := (0)) hx hb dX3_isRowWhole_38 (by decide) ?_
      obtain rfl := Option.some.inj h
      exact W.zret hx hb hr rfl (fun t ht hW => ⟨rfl, ht⟩) (fun q hq => absurd hq List.not_mem_nil) dX3_isRowWhole_39
    · have h := iteT hc h
      refine lv_iconst (v := (1)) hx hb dX3_isRowWhole_34 (by decide) ?_
      refine lv_goto (tgt := 39) hx hb dX3_isRowWhole_35 (by decide) ?_
      obtain rfl := Option.some.inj h
      exact W.zret hx hb hr rfl (fun t ht hW => ⟨rfl, ht⟩) (fun q hq => absurd hq List.not_mem_nil) dX3_isRowWhole_39
  · have h := iteT hc h
    refine lv_aload_n hx hb dX3_isRowWhole_7 rfl (lv_at hl 0 rfl) ?_
    refine va_get hx hb hts inX3 hown hK hP 0 rfl rfl 4 (by decide) (hts _ qw189) (fun _ h9 => h9) rfl dX3_isRowWhole_8 ?_
    refine lv_iconst (v := (2)) hx hb dX3_isRowWhole_11 (by decide) ?_
    refine lv_icmp_lt (tgt := 19) hx hb dX3_isRowWhole_12 (by decide) (fun hc => ?_) (fun hc => ?_)
    · have h := iteT hc h
      refine lv_iconst (v := (0)) hx hb dX3_isRowWhole_19 (by decide) ?_
      refine lv_goto (tgt := 39) hx hb dX3_isRowWhole_20 (by decide) ?_
      obtain rfl := Option.some.inj h
      exact W.zret hx hb hr rfl (fun t ht hW => ⟨rfl, ht⟩) (fun q hq => absurd hq List.not_mem_nil) dX3_isRowWhole_39
    · have h := iteF hc h
      refine lv_iconst (v := (1)) hx hb dX3_isRowWhole_15 (by decide) ?_
      refine lv_goto (tgt := 39) hx hb dX3_isRowWhole_16 (by decide) ?_
      obtain rfl := Option.some.inj h
      exact W.zret hx hb hr rfl (fun t ht hW => ⟨rfl, ht⟩) (fun q hq => absurd hq List.not_mem_nil) dX3_isRowWhole_39

abbrev rm_X3_isLastForPond : Room := { frames := 0, cells := 0, slots := 0, locals := 0 }
theorem ok_X3_isLastForPond : okY yX3_isLastForPond 0 := ⟨by decide +kernel, by decide +kernel, by decide +kernel⟩
set_option maxHeartbeats 4000000 in
set_option maxRecDepth 100000 in
theorem c_X3_isLastForPond (l : Launch) (z0 : Nat) (D : va_G) (t : Nat → ClassId) (r0 : Nat) (μ : RDS) (res : Int32) (h : f_X3_isLastForPond μ = some res) : Met l yX3_isLastForPond (ws_ yX3_isLastForPond cX3_isLastForPond 1 (some .boolean)) rm_X3_isLastForPond (PR z0 D t [.ref r0] (RDW r0 t μ)) (QR (some (.int res))) 0 0 FN := by
  refine Met.ofW (cc := cX3_isLastForPond) (maxL := 1) (ret := (some .boolean)) (by decide) rfl ?_
  intro p e s m args below meth c s₁ Bo hml hv
  obtain ⟨rfl, hC, hP⟩ := hv
  have hx := Bo.exec
  have hb := Bo.bytes
  have hr := Bo.returns
  have hts : ∀ w ∈ LA, w.before _ s = true := fun w hw => atoms_spec (ws := ws_ yX3_isLastForPond cX3_isLastForPond 1 (some .boolean)) Bo.pre w (List.mem_cons_of_mem _ hw)
  have hown : s.vm.findClass RX3 = some m.cls := findClass_of_methodNamed Bo.named
  have hlocks := Bo.notSynchronized
  have hK := hC.1
  have hl := lv_entry ([.ref r0]) (n := 1) (Nat.le_of_ble_eq_true rfl)
  rw [lg_entry_eq]
  generalize (lg_sl ([.ref r0]) ++ List.replicate (1 - (lg_sl ([.ref r0])).length) Slot.unset).toArray = ls at hl ⊢
  have hl : lv_has ls 1 [(0, .ref (r0))] := hl
  unfold f_X3_isLastForPond at h
  refine lv_aload_n hx hb dX3_isLastForPond_0 rfl (lv_at hl 0 rfl) ?_
  refine va_get hx hb hts inX3 hown hK hP 0 rfl rfl 2 (by decide) (hts _ qw185) (fun _ h9 => h9) rfl dX3_isLastForPond_1 ?_
  refine lv_iconst (v := (-1)) hx hb dX3_isLastForPond_4 (by decide) ?_
  refine lv_icmp_ne (tgt := 36) hx hb dX3_isLastForPond_5 (by decide) (fun hc => ?_) (fun hc => ?_)
  · have h := iteF hc h
    refine lv_iconst (v := (0)) hx hb dX3_isLastForPond_36 (by decide) ?_
    obtain rfl := Option.some.inj h
    exact W.zret hx hb hr rfl (fun t ht hW => ⟨rfl, ht⟩) (fun q hq => absurd hq List.not_mem_nil) dX3_isLastForPond_37
  · have h := iteT hc h
    refine lv_aload_n hx hb dX3_isLastForPond_8 rfl (lv_at hl 0 rfl) ?_
    refine va_get hx hb hts inX3 hown hK hP 0 rfl rfl 1 (by decide) (hts _ qw183) (fun _ h9 => h9) rfl dX3_isLastForPond_9 ?_
    refine lv_iconst (v := (1)) hx hb dX3_isLastForPond_12 (by decide) ?_
    refine lv_iadd hx hb dX3_isLastForPond_13 ?_
    refine lv_bipush (v := (8)) hx hb dX3_isLastForPond_14 (by decide) ?_
    refine lv_icmp_ne (tgt := 36) hx hb dX3_isLastForPond_16 (by decide) (fun hc => ?_) (fun hc => ?_)
    · have h := iteF hc h
      refine lv_iconst (v := (0)) hx hb dX3_isLastForPond_36 (by decide) ?_
      obtain rfl := Option.some.inj h
      exact W.zret hx hb hr rfl (fun t ht hW => ⟨rfl, ht⟩) (fun q hq => absurd hq List.not_mem_nil) dX3_isLastForPond_37
    · have h := iteT hc h
      refine lv_aload_n hx hb dX3_isLastForPond_19 rfl (lv_at hl 0 rfl) ?_
      refine va_get hx hb hts inX3 hown hK hP 0 rfl rfl 4 (by decide) (hts _ qw189) (fun _ h9 => h9) rfl dX3_isLastForPond_20 ?_
      refine lv_iconst (v := (1)) hx hb dX3_isLastForPond_23 (by decide) ?_
      refine lv_iadd hx hb dX3_isLastForPond_24 ?_
      refine lv_aload_n hx hb dX3_isLastForPond_25 rfl (lv_at hl 0 rfl) ?_
      refine va_get hx hb hts inX3 hown hK hP 0 rfl rfl 0 (by decide) (hts _ qw181) (fun _ h9 => h9) rfl dX3_isLastForPond_26 ?_
      refine lv_icmp_ne (tgt := 36) hx hb dX3_isLastForPond_29 (by decide) (fun hc => ?_) (fun hc => ?_)
      · have h := iteF hc h
        refine lv_iconst (v := (0)) hx hb dX3_isLastForPond_36 (by decide) ?_
        obtain rfl := Option.some.inj h
        exact W.zret hx hb hr rfl (fun t ht hW => ⟨rfl, ht⟩) (fun q hq => absurd hq List.not_mem_nil) dX3_isLastForPond_37
      · have h := iteT hc h
        refine lv_iconst (v := (1)) hx hb dX3_isLastForPond_32 (by decide) ?_
        refine lv_goto (tgt := 37) hx hb dX3_isLastForPond_33 (by decide) ?_
        obtain rfl := Option.some.inj h
        exact W.zret hx hb hr rfl (fun t ht hW => ⟨rfl, ht⟩) (fun q hq => absurd hq List.not_mem_nil) dX3_isLastForPond_37

abbrev rm_X3_isNext : Room := { frames := 1, cells := 0, slots := 0, locals := 20 }
theorem ok_X3_isNext : okY yX3_isNext 1 := ⟨by decide +kernel, by decide +kernel, by decide +kernel⟩
set_option maxHeartbeats 4000000 in
set_option maxRecDepth 100000 in
theorem c_X3_isNext (l : Launch) (z0 : Nat) (D : va_G) (t : Nat → ClassId) (r0 : Nat) (μ : RDS) (a1 : Int32) (res : Int32) (h : f_X3_isNext μ a1 = some res) : Met l yX3_isNext (ws_ yX3_isNext cX3_isNext 2 (some .boolean)) rm_X3_isNext (PR z0 D t [.ref r0, .int a1] (RDW r0 t μ)) (QR (some (.int res))) 0 0 FN := by
  refine Met.ofW (cc := cX3_isNext) (maxL := 2) (ret := (some .boolean)) (by decide) rfl ?_
  intro p e s m args below meth c s₁ Bo hml hv
  obtain ⟨rfl, hC, hP⟩ := hv
  have hx := Bo.exec
  have hb := Bo.bytes
  have hr := Bo.returns
  have hts : ∀ w ∈ LA, w.before _ s = true := fun w hw => atoms_spec (ws := ws_ yX3_isNext cX3_isNext 2 (some .boolean)) Bo.pre w (List.mem_cons_of_mem _ hw)
  have hown : s.vm.findClass RX3 = some m.cls := findClass_of_methodNamed Bo.named
  have hlocks := Bo.notSynchronized
  have hK := hC.1
  have hl := lv_entry ([.ref r0, .int a1]) (n := 2) (Nat.le_of_ble_eq_true rfl)
  rw [lg_entry_eq]
  generalize (lg_sl ([.ref r0, .int a1]) ++ List.replicate (2 - (lg_sl ([.ref r0, .int a1])).length) Slot.unset).toArray = ls at hl ⊢
  have hl : lv_has ls 2 [(0, .ref (r0)), (1, .int a1)] := hl
  unfold f_X3_isNext at h
  refine lv_iload_n hx hb dX3_isNext_0 rfl (lv_at hl 1 rfl) ?_
  refine lv_bipush (v := (47)) hx hb dX3_isNext_1 (by decide) ?_
  refine lv_icmp_ne (tgt := 30) hx hb dX3_isNext_3 (by decide) (fun hc => ?_) (fun hc => ?_)
  · have h := iteF hc h
    refine lv_aload_n hx hb dX3_isNext_30 rfl (lv_at hl 0 rfl) ?_
    refine va_get hx hb hts inX3 hown hK hP 0 rfl rfl 4 (by decide) (hts _ qw189) (fun _ h9 => h9) rfl dX3_isNext_31 ?_
    refine lv_aload_n hx hb dX3_isNext_34 rfl (lv_at hl 0 rfl) ?_
    refine va_get hx hb hts inX3 hown hK hP 0 rfl rfl 0 (by decide) (hts _ qw181) (fun _ h9 => h9) rfl dX3_isNext_35 ?_
    refine lv_icmp_lt (tgt := 43) hx hb dX3_isNext_38 (by decide) (fun hc => ?_) (fun hc => ?_)
    · have h := iteT hc h
      refine lv_iload_n hx hb dX3_isNext_43 rfl (lv_at hl 1 rfl) ?_
      refine lv_bipush (v := (111)) hx hb dX3_isNext_44 (by decide) ?_
      refine lv_icmp_ne (tgt := 63) hx hb dX3_isNext_46 (by decide) (fun hc => ?_) (fun hc => ?_)
      · have h := iteF hc h
        refine lv_iload_n hx hb dX3_isNext_63 rfl (lv_at hl 1 rfl) ?_
        refine lv_bipush (v := (46)) hx hb dX3_isNext_64 (by decide) ?_
        refine lv_icmp_eq (tgt := 75) hx hb dX3_isNext_66 (by decide) (fun hc => ?_) (fun hc => ?_)
        · have h := iteT hc h
          refine lv_aload_n hx hb dX3_isNext_75 rfl (lv_at hl 0 rfl) ?_
          obtain ⟨r1, er1, h⟩ := obind h
          refine call_R (va_runV (As := []) (rest := []) ⟨hx, hb, hml, hown, hts⟩ (c_X3_isLastForPond l z0 D t r0 μ _ er1) (kV hts qw217 qw219 qs1 qw20 qw220 ok_X3_isLastForPond ⟨Nat.le_of_ble_eq_true rfl, Nat.le_of_ble_eq_true rfl⟩) ⟨PR.blind, va_recv hK hP (ci := 4) (q0 := 0) rfl rfl, fun U hU hW => ⟨rfl, by rw [hU]; exact hC.warm hW, by rw [hU]; exact hP⟩⟩ rfl rfl hl.1 rfl (lv_room (Nat.le_of_ble_eq_true rfl)) dX3_isNext_76 ⟨Nat.le_of_ble_eq_true rfl, Nat.le_of_ble_eq_true rfl⟩) ?_
          refine lv_if_ne (tgt := 86) hx hb dX3_isNext_79 (by decide) (fun hc => ?_) (fun hc => ?_)
          · have h := iteF hc h
            refine lv_iconst (v := (0)) hx hb dX3_isNext_86 (by decide) ?_
            obtain rfl := Option.some.inj h
            exact W.zret hx hb hr rfl (fun t ht hW => ⟨rfl, ht⟩) (fun q hq => absurd hq List.not_mem_nil) dX3_isNext_87
          · have h := iteT hc h
            refine lv_iconst (v := (1)) hx hb dX3_isNext_82 (by decide) ?_
            refine lv_goto (tgt := 87) hx hb dX3_isNext_83 (by decide) ?_
            obtain rfl := Option.some.inj h
            exact W.zret hx hb hr rfl (fun t ht hW => ⟨rfl, ht⟩) (fun q hq => absurd hq List.not_mem_nil) dX3_isNext_87
        · have h := iteF hc h
          refine lv_iload_n hx hb dX3_isNext_69 rfl (lv_at hl 1 rfl) ?_
          refine lv_bipush (v := (35)) hx hb dX3_isNext_70 (by decide) ?_
          refine lv_icmp_ne (tgt := 86) hx hb dX3_isNext_72 (by decide) (fun hc => ?_) (fun hc => ?_)
          · have h := iteF hc h
            refine lv_iconst (v := (0)) hx hb dX3_isNext_86 (by decide) ?_
            obtain rfl := Option.some.inj h
            exact W.zret hx hb hr rfl (fun t ht hW => ⟨rfl, ht⟩) (fun q hq => absurd hq List.not_mem_nil) dX3_isNext_87
          · have h := iteT hc h
            refine lv_aload_n hx hb dX3_isNext_75 rfl (lv_at hl 0 rfl) ?_
            obtain ⟨r2, er2, h⟩ := obind h
            refine call_R (va_runV (As := []) (rest := []) ⟨hx, hb, hml, hown, hts⟩ (c_X3_isLastForPond l z0 D t r0 μ _ er2) (kV hts qw217 qw219 qs1 qw20 qw220 ok_X3_isLastForPond ⟨Nat.le_of_ble_eq_true rfl, Nat.le_of_ble_eq_true rfl⟩) ⟨PR.blind, va_recv hK hP (ci := 4) (q0 := 0) rfl rfl, fun U hU hW => ⟨rfl, by rw [hU]; exact hC.warm hW, by rw [hU]; exact hP⟩⟩ rfl rfl hl.1 rfl (lv_room (Nat.le_of_ble_eq_true rfl)) dX3_isNext_76 ⟨Nat.le_of_ble_eq_true rfl, Nat.le_of_ble_eq_true rfl⟩) ?_
            refine lv_if_ne (tgt := 86) hx hb dX3_isNext_79 (by decide) (fun hc => ?_) (fun hc => ?_)
            · have h := iteF hc h
              refine lv_iconst (v := (0)) hx hb dX3_isNext_86 (by decide) ?_
              obtain rfl := Option.some.inj h
              exact W.zret hx hb hr rfl (fun t ht hW => ⟨rfl, ht⟩) (fun q hq => absurd hq List.not_mem_nil) dX3_isNext_87
            · have h := iteT hc h
              refine lv_iconst (v := (1)) hx hb dX3_isNext_82 (by decide) ?_
              refine lv_goto (tgt := 87) hx hb dX3_isNext_83 (by decide) ?_
              obtain rfl := Option.some.inj h
              exact W.zret hx hb hr rfl (fun t ht hW => ⟨rfl, ht⟩) (fun q hq => absurd hq List.not_mem_nil) dX3_isNext_87
      · have h := iteT hc h
        refine lv_aload_n hx hb dX3_isNext_49 rfl (lv_at hl 0 rfl) ?_
        refine va_get hx hb hts inX3 hown hK hP 0 rfl rfl 2 (by decide) (hts _ qw185) (fun _ h9 => h9) rfl dX3_isNext_50 ?_
        refine lv_iconst (v := (-1)) hx hb dX3_isNext_53 (by decide) ?_
        refine lv_icmp_ne (tgt := 61) hx hb dX3_isNext_54 (by decide) (fun hc => ?_) (fun hc => ?_)
        · have h := iteF hc h
          refine lv_iconst (v := (0)) hx hb dX3_isNext_61 (by decide) ?_
          obtain rfl := Option.some.inj h
          exact W.zret hx hb hr rfl (fun t ht hW => ⟨rfl, ht⟩) (fun q hq => absurd hq List.not_mem_nil) dX3_isNext_62
        · have h := iteT hc h
          refine lv_iconst (v := (1)) hx hb dX3_isNext_57 (by decide) ?_
          refine lv_goto (tgt := 62) hx hb dX3_isNext_58 (by decide) ?_
          obtain rfl := Option.some.inj h
          exact W.zret hx hb hr rfl (fun t ht hW => ⟨rfl, ht⟩) (fun q hq => absurd hq List.not_mem_nil) dX3_isNext_62
    · have h := iteF hc h
      refine lv_iconst (v := (0)) hx hb dX3_isNext_41 (by decide) ?_
      obtain rfl := Option.some.inj h
      exact W.zret hx hb hr rfl (fun t ht hW => ⟨rfl, ht⟩) (fun q hq => absurd hq List.not_mem_nil) dX3_isNext_42
  · have h := iteT hc h
    refine lv_aload_n hx hb dX3_isNext_6 rfl (lv_at hl 0 rfl) ?_
    obtain ⟨r3, er3, h⟩ := obind h
    refine call_R (va_runV (As := []) (rest := []) ⟨hx, hb, hml, hown, hts⟩ (c_X3_isRowWhole l z0 D t r0 μ _ er3) (kV hts qw213 qw215 qs0 qw20 qw216 ok_X3_isRowWhole ⟨Nat.le_of_ble_eq_true rfl, Nat.le_of_ble_eq_true rfl⟩) ⟨PR.blind, va_recv hK hP (ci := 4) (q0 := 0) rfl rfl, fun U hU hW => ⟨rfl, by rw [hU]; exact hC.warm hW, by rw [hU]; exact hP⟩⟩ rfl rfl hl.1 rfl (lv_room (Nat.le_of_ble_eq_true rfl)) dX3_isNext_7 ⟨Nat.le_of_ble_eq_true rfl, Nat.le_of_ble_eq_true rfl⟩) ?_
    refine lv_if_eq (tgt := 28) hx hb dX3_isNext_10 (by decide) (fun hc => ?_) (fun hc => ?_)
    · have h := iteT hc h
      refine lv_iconst (v := (0)) hx hb dX3_isNext_28 (by decide) ?_
      obtain rfl := Option.some.inj h
      exact W.zret hx hb hr rfl (fun t ht hW => ⟨rfl, ht⟩) (fun q hq => absurd hq List.not_mem_nil) dX3_isNext_29
    · have h := iteF hc h
      refine lv_aload_n hx hb dX3_isNext_13 rfl (lv_at hl 0 rfl) ?_
      refine va_get hx hb hts inX3 hown hK hP 0 rfl rfl 1 (by decide) (hts _ qw183) (fun _ h9 => h9) rfl dX3_isNext_14 ?_
      refine lv_iconst (v := (1)) hx hb dX3_isNext_17 (by decide) ?_
      refine lv_iadd hx hb dX3_isNext_18 ?_
      refine lv_bipush (v := (8)) hx hb dX3_isNext_19 (by decide) ?_
      refine lv_icmp_ge (tgt := 28) hx hb dX3_isNext_21 (by decide) (fun hc => ?_) (fun hc => ?_)
      · have h := iteT hc h
        refine lv_iconst (v := (0)) hx hb dX3_isNext_28 (by decide) ?_
        obtain rfl := Option.some.inj h
        exact W.zret hx hb hr rfl (fun t ht hW => ⟨rfl, ht⟩) (fun q hq => absurd hq List.not_mem_nil) dX3_isNext_29
      · have h := iteF hc h
        refine lv_iconst (v := (1)) hx hb dX3_isNext_24 (by decide) ?_
        refine lv_goto (tgt := 29) hx hb dX3_isNext_25 (by decide) ?_
        obtain rfl := Option.some.inj h
        exact W.zret hx hb hr rfl (fun t ht hW => ⟨rfl, ht⟩) (fun q hq => absurd hq List.not_mem_nil) dX3_isNext_29

abbrev rm_X4_placeOf : Room := { frames := 0, cells := 0, slots := 0, locals := 0 }
theorem ok_X4_placeOf : okY yX4_placeOf 2 := ⟨by decide +kernel, by decide +kernel, by decide +kernel⟩
set_option maxHeartbeats 4000000 in
set_option maxRecDepth 100000 in
theorem c_X4_placeOf (l : Launch) (z0 : Nat) (D : va_G) (t : Nat → ClassId) (a1 : Int32) (a2 : Int32) (res : Int32) (h : f_X4_placeOf a1 a2 = some res) : Met l yX4_placeOf (ws_ yX4_placeOf cX4_placeOf 2 (some .int)) rm_X4_placeOf (PR z0 D t [.int a1, .int a2] []) (QR (some (.int res))) 0 0 FN := by
  refine Met.ofW (cc := cX4_placeOf) (maxL := 2) (ret := (some .int)) (by decide) rfl ?_
  intro p e s m args below meth c s₁ Bo hml hv
  obtain ⟨rfl, hC, hP⟩ := hv
  have hx := Bo.exec
  have hb := Bo.bytes
  have hr := Bo.returns
  have hts : ∀ w ∈ LA, w.before _ s = true := fun w hw => atoms_spec (ws := ws_ yX4_placeOf cX4_placeOf 2 (some .int)) Bo.pre w (List.mem_cons_of_mem _ hw)
  have hown : s.vm.findClass RX4 = some m.cls := findClass_of_methodNamed Bo.named
  have hlocks := Bo.notSynchronized
  have hK := hC.1
  have hl := lv_entry ([.int a1, .int a2]) (n := 2) (Nat.le_of_ble_eq_true rfl)
  rw [lg_entry_eq]
  generalize (lg_sl ([.int a1, .int a2]) ++ List.replicate (2 - (lg_sl ([.int a1, .int a2])).length) Slot.unset).toArray = ls at hl ⊢
  have hl : lv_has ls 2 [(0, .int a1), (1, .int a2)] := hl
  unfold f_X4_placeOf at h
  refine lv_bipush (v := (8)) hx hb dX4_placeOf_0 (by decide) ?_
  refine lv_iload_n hx hb dX4_placeOf_2 rfl (lv_at hl 1 rfl) ?_
  refine lv_imul hx hb dX4_placeOf_3 ?_
  refine lv_iload_n hx hb dX4_placeOf_4 rfl (lv_at hl 0 rfl) ?_
  refine lv_iadd hx hb dX4_placeOf_5 ?_
  obtain rfl := Option.some.inj h
  exact W.iret hx hb hr (fun t ht hW => ⟨rfl, ht⟩) (fun q hq => absurd hq List.not_mem_nil) dX4_placeOf_6

abbrev rm_X4_cellAt : Room := { frames := 1, cells := 0, slots := 0, locals := 40 }
theorem ok_X4_cellAt : okY yX4_cellAt 2 := ⟨by decide +kernel, by decide +kernel, by decide +kernel⟩
set_option maxHeartbeats 4000000 in
set_option maxRecDepth 100000 in
theorem c_X4_cellAt (l : Launch) (z0 : Nat) (D : va_G) (t : Nat → ClassId) (a1 : Int32) (a2 : Int32) (res : Int64) (h : f_X4_cellAt a1 a2 = some res) : Met l yX4_cellAt (ws_ yX4_cellAt cX4_cellAt 2 (some .long)) rm_X4_cellAt (PR z0 D t [.int a1, .int a2] []) (QR (some (.long res))) 0 0 FN := by
  refine Met.ofW (cc := cX4_cellAt) (maxL := 2) (ret := (some .long)) (by decide) rfl ?_
  intro p e s m args below meth c s₁ Bo hml hv
  obtain ⟨rfl, hC, hP⟩ := hv
  have hx := Bo.exec
  have hb := Bo.bytes
  have hr := Bo.returns
  have hts : ∀ w ∈ LA, w.before _ s = true := fun w hw => atoms_spec (ws := ws_ yX4_cellAt cX4_cellAt 2 (some .long)) Bo.pre w (List.mem_cons_of_mem _ hw)
  have hown : s.vm.findClass RX4 = some m.cls := findClass_of_methodNamed Bo.named
  have hlocks := Bo.notSynchronized
  have hK := hC.1
  have hl := lv_entry ([.int a1, .int a2]) (n := 2) (Nat.le_of_ble_eq_true rfl)
  rw [lg_entry_eq]
  generalize (lg_sl ([.int a1, .int a2]) ++ List.replicate (2 - (lg_sl ([.int a1, .int a2])).length) Slot.unset).toArray = ls at hl ⊢
  have hl : lv_has ls 2 [(0, .int a1), (1, .int a2)] := hl
  unfold f_X4_cellAt at h
  refine lv_lconst (v := (1)) hx hb dX4_cellAt_0 (by decide) ?_
  refine lv_iload_n hx hb dX4_cellAt_1 rfl (lv_at hl 0 rfl) ?_
  refine lv_iload_n hx hb dX4_cellAt_2 rfl (lv_at hl 1 rfl) ?_
  obtain ⟨r1, er1, h⟩ := obind h
  refine call_R (va_runS (As := [.int a1, .int a2]) (rest := [.long (1 : Int64)]) ⟨hx, hb, hml, hown, hts⟩ (c_X4_placeOf l z0 D t a1 a2 _ er1) (kS hts qw231 qw226 qw1 qw227 ok_X4_placeOf ⟨Nat.le_of_ble_eq_true rfl, Nat.le_of_ble_eq_true rfl⟩) ⟨PR.blind, fun U hU hW => ⟨rfl, by rw [hU]; exact hC.warm hW, by rw [hU]; exact va_P_nil⟩⟩ rfl rfl hl.1 rfl (lv_room (Nat.le_of_ble_eq_true rfl)) dX4_cellAt_3 ⟨Nat.le_of_ble_eq_true rfl, Nat.le_of_ble_eq_true rfl⟩) ?_
  refine lv_lshl hx hb dX4_cellAt_6 rfl ?_
  obtain rfl := Option.some.inj h
  exact W.lret hx hb hr (fun t ht hW => ⟨rfl, ht⟩) (fun q hq => absurd hq List.not_mem_nil) dX4_cellAt_7

abbrev rm_X3_take : Room := { frames := 2, cells := 0, slots := 0, locals := 61 }
theorem ok_X3_take : okY yX3_take 1 := ⟨by decide +kernel, by decide +kernel, by decide +kernel⟩
set_option maxHeartbeats 4000000 in
set_option maxRecDepth 100000 in
theorem c_X3_take (l : Launch) (z0 : Nat) (D : va_G) (t : Nat → ClassId) (r0 : Nat) (μ : RDS) (a1 : Int32) (res : (Int32) × (Int32) × (Int32) × (Int64) × (Int32)) (sz : Nat) (h : f_X3_take μ a1 = some res) : Met l yX3_take (ws_ yX3_take cX3_take 2 none) rm_X3_take (PM z0 D t [.ref r0, .int a1] (RDW r0 t μ) (RDL r0) sz) (QM none D (RDW r0 t (rd_column' (rd_walls' (rd_pond' (rd_row' (rd_wide' μ res.1) res.2.1) res.2.2.1) res.2.2.2.1) res.2.2.2.2)) (RDL r0) sz) 0 0 (OA (RDL r0) sz) := by
  refine Met.ofW (cc := cX3_take) (maxL := 2) (ret := none) (by decide) rfl ?_
  intro p e s m args below meth c s₁ Bo hml hv
  obtain ⟨rfl, hC, hsz, hP, hD, hZ⟩ := hv
  have hx := Bo.exec
  have hb := Bo.bytes
  have hr := Bo.returns
  have hts : ∀ w ∈ LA, w.before _ s = true := fun w hw => atoms_spec (ws := ws_ yX3_take cX3_take 2 none) Bo.pre w (List.mem_cons_of_mem _ hw)
  have hown : s.vm.findClass RX3 = some m.cls := findClass_of_methodNamed Bo.named
  have hlocks := Bo.notSynchronized
  have hK := hC.1
  subst hsz
  have hl := lv_entry ([.ref r0, .int a1]) (n := 2) (Nat.le_of_ble_eq_true rfl)
  rw [lg_entry_eq]
  generalize (lg_sl ([.ref r0, .int a1]) ++ List.replicate (2 - (lg_sl ([.ref r0, .int a1])).length) Slot.unset).toArray = ls at hl ⊢
  have hl : lv_has ls 2 [(0, .ref (r0)), (1, .int a1)] := hl
  suffices K9 : ∀ (H : Heap) (locs : List Loc), va_P D vwCl (RDW r0 t μ) H → va_S (OA (RDL r0) s.heap.size) s.heap H locs → W p l e (headSpec (ws_ yX3_take cX3_take 2 none) rm_X3_take).room s m ([.ref r0, .int a1] : List Value).toArray below meth c H locs 0 0 (MQ below (QM none D (RDW r0 t (rd_column' (rd_walls' (rd_pond' (rd_row' (rd_wide' μ res.1) res.2.1) res.2.2.1) res.2.2.2.1) res.2.2.2.2)) (RDL r0) s.heap.size) ([.ref r0, .int a1] : List Value).toArray s 0 0 (OA (RDL r0) s.heap.size)) (F0 m 0 ls []) from K9 s.heap [] hP va_S.rf
  intro H locs hP hS
  have hSz : s.heap.size ≤ H.size := hS.1
  unfold f_X3_take at h
  refine lv_iload_n hx hb dX3_take_0 rfl (lv_at hl 1 rfl) ?_
  refine lv_bipush (v := (47)) hx hb dX3_take_1 (by decide) ?_
  refine lv_icmp_ne (tgt := 44) hx hb dX3_take_3 (by decide) (fun hc => ?_) (fun hc => ?_)
  · have h := iteF hc h
    refine lv_iload_n hx hb dX3_take_44 rfl (lv_at hl 1 rfl) ?_
    refine lv_bipush (v := (111)) hx hb dX3_take_45 (by decide) ?_
    obtain ⟨o2, eo2, h⟩ := obind h
    have hJ65_o2 : ∀ (ls : Array Slot) (H : Heap) (locs : List Loc), lv_has ls 2 [(0, .ref (r0)), (1, .int a1)] → va_P D vwCl (RDW r0 t (rd_pond' μ o2)) H → va_D (OA (RDL r0) s.heap.size) (RDW r0 t (rd_pond' μ o2)) → va_S (OA (RDL r0) s.heap.size) s.heap H locs → W p l e (headSpec (ws_ yX3_take cX3_take 2 none) rm_X3_take).room s m ([.ref r0, .int a1] : List Value).toArray below meth c H locs 0 0 (MQ below (QM none D (RDW r0 t (rd_column' (rd_walls' (rd_pond' (rd_row' (rd_wide' μ res.1) res.2.1) res.2.2.1) res.2.2.2.1) res.2.2.2.2)) (RDL r0) s.heap.size) ([.ref r0, .int a1] : List Value).toArray s 0 0 (OA (RDL r0) s.heap.size)) (F0 m 65 ls []) := by
      intro ls H locs hl hP hD hS
      have hSz : s.heap.size ≤ H.size := hS.1
      refine lv_iload_n hx hb dX3_take_65 rfl (lv_at hl 1 rfl) ?_
      refine lv_bipush (v := (35)) hx hb dX3_take_66 (by decide) ?_
      obtain ⟨o6, eo6, h⟩ := obind h
      have hJ91_o6 : ∀ (ls : Array Slot) (H : Heap) (locs : List Loc), lv_has ls 2 [(0, .ref (r0))] → va_P D vwCl (RDW r0 t (rd_walls' (rd_pond' μ o2) o6)) H → va_D (OA (RDL r0) s.heap.size) (RDW r0 t (rd_walls' (rd_pond' μ o2) o6)) → va_S (OA (RDL r0) s.heap.size) s.heap H locs → W p l e (headSpec (ws_ yX3_take cX3_take 2 none) rm_X3_take).room s m ([.ref r0, .int a1] : List Value).toArray below meth c H locs 0 0 (MQ below (QM none D (RDW r0 t (rd_column' (rd_walls' (rd_pond' (rd_row' (rd_wide' μ res.1) res.2.1) res.2.2.1) res.2.2.2.1) res.2.2.2.2)) (RDL r0) s.heap.size) ([.ref r0, .int a1] : List Value).toArray s 0 0 (OA (RDL r0) s.heap.size)) (F0 m 91 ls []) := by
        intro ls H locs hl hP hD hS
        have hSz : s.heap.size ≤ H.size := hS.1
        refine lv_aload_n hx hb dX3_take_91 rfl (lv_at hl 0 rfl) ?_
        refine lv_dup hx hb dX3_take_92 rfl ?_
        refine va_get hx hb hts inX3 hown hK hP 0 rfl rfl 4 (by decide) (hts _ qw189) (fun _ h9 => h9) rfl dX3_take_93 ?_
        refine lv_iconst (v := (1)) hx hb dX3_take_96 (by decide) ?_
        refine lv_iadd hx hb dX3_take_97 ?_
        obtain ⟨x9, ex9, h⟩ := jlet_some h
        refine topI ex9 ?_
        refine va_put (D := D) (ci := 4) (v := .int x9) (ty := .int) hx hb hts inX3 tyX3 tyX3_ok nmX3 hown hK hP hD hS 0 rfl rfl 4 (by decide) (hts _ qw189) (fun _ h9 => h9) rfl (by decide +kernel) rfl rfl (Nat.le_of_ble_eq_true rfl) dX3_take_98 (fun H locs hP hD hS => ?_)
        have hP : va_P D vwCl (RDW r0 t (rd_column' (rd_walls' (rd_pond' μ o2) o6) x9)) H := hP
        have hD : va_D (OA (RDL r0) s.heap.size) (RDW r0 t (rd_column' (rd_walls' (rd_pond' μ o2) o6) x9)) := hD
        have hSz : s.heap.size ≤ H.size := hS.1
        obtain rfl := Option.some.inj h
        exact W.vret hx hb hr (fun t ht hW => ⟨rfl, by rw [ht]; exact hP, hD, hS.F ht⟩) hS.2.2 dX3_take_101
      have h := eo6
      clear eo6
      refine lv_icmp_ne (tgt := 91) hx hb dX3_take_68 (by decide) (fun hc => ?_) (fun hc => ?_)
      · have h := iteF hc h
        obtain rfl := Option.some.inj h
        exact hJ91_o6 ls H locs (lv_sub hl [0] rfl) hP hD hS
      · have h := iteT hc h
        refine lv_aload_n hx hb dX3_take_71 rfl (lv_at hl 0 rfl) ?_
        refine lv_dup hx hb dX3_take_72 rfl ?_
        refine va_get hx hb hts inX3 hown hK hP 0 rfl rfl 3 (by decide) (hts _ qw187) (fun _ h9 => h9) rfl dX3_take_73 ?_
        refine lv_aload_n hx hb dX3_take_76 rfl (lv_at hl 0 rfl) ?_
        refine va_get hx hb hts inX3 hown hK hP 0 rfl rfl 4 (by decide) (hts _ qw189) (fun _ h9 => h9) rfl dX3_take_77 ?_
        refine lv_aload_n hx hb dX3_take_80 rfl (lv_at hl 0 rfl) ?_
        refine va_get hx hb hts inX3 hown hK hP 0 rfl rfl 1 (by decide) (hts _ qw183) (fun _ h9 => h9) rfl dX3_take_81 ?_
        obtain ⟨r7, er7, h⟩ := obind h
        refine call_R (va_runSN (As := [.int (rd_column μ), .int (rd_row μ)]) (rest := [.long (rd_walls μ), .ref (r0)]) ⟨hx, hb, hml, hown, hts⟩ (c_X4_cellAt l z0 D t (rd_column μ) (rd_row μ) _ er7) ⟨kN hts (hC.2.1 _ qw228) qw1 qw230 ok_X4_cellAt ⟨Nat.le_of_ble_eq_true rfl, Nat.le_of_ble_eq_true rfl⟩, hts _ qw229, trivial⟩ ⟨PR.blind, fun U hU hW => ⟨rfl, by rw [hU]; exact (hC.at hS hZ).warm hW, by rw [hU]; exact va_P_nil⟩⟩ rfl rfl hl.1 rfl (lv_room (Nat.le_of_ble_eq_true rfl)) dX3_take_84 ⟨Nat.le_of_ble_eq_true rfl, Nat.le_of_ble_eq_true rfl⟩) ?_
        refine lv_lor hx hb dX3_take_87 ?_
        obtain ⟨x8, ex8, h⟩ := jlet_some h
        refine topJ ex8 ?_
        refine va_put (D := D) (ci := 4) (v := .long x8) (ty := .long) hx hb hts inX3 tyX3 tyX3_ok nmX3 hown hK hP hD hS 0 rfl rfl 3 (by decide) (hts _ qw187) (fun _ h9 => h9) rfl (by decide +kernel) rfl rfl (Nat.le_of_ble_eq_true rfl) dX3_take_88 (fun H locs hP hD hS => ?_)
        have hP : va_P D vwCl (RDW r0 t (rd_walls' (rd_pond' μ o2) x8)) H := hP
        have hD : va_D (OA (RDL r0) s.heap.size) (RDW r0 t (rd_walls' (rd_pond' μ o2) x8)) := hD
        have hSz : s.heap.size ≤ H.size := hS.1
        obtain rfl := Option.some.inj h
        exact hJ91_o6 ls H locs (lv_sub hl [0] rfl) hP hD hS
    have h := eo2
    clear eo2
    refine lv_icmp_ne (tgt := 65) hx hb dX3_take_47 (by decide) (fun hc => ?_) (fun hc => ?_)
    · have h := iteF hc h
      obtain rfl := Option.some.inj h
      exact hJ65_o2 ls H locs (lv_sub hl [0, 1] rfl) hP hD hS
    · have h := iteT hc h
      refine lv_aload_n hx hb dX3_take_50 rfl (lv_at hl 0 rfl) ?_
      refine lv_aload_n hx hb dX3_take_51 rfl (lv_at hl 0 rfl) ?_
      refine va_get hx hb hts inX3 hown hK hP 0 rfl rfl 4 (by decide) (hts _ qw189) (fun _ h9 => h9) rfl dX3_take_52 ?_
      refine lv_aload_n hx hb dX3_take_55 rfl (lv_at hl 0 rfl) ?_
      refine va_get hx hb hts inX3 hown hK hP 0 rfl rfl 1 (by decide) (hts _ qw183) (fun _ h9 => h9) rfl dX3_take_56 ?_
      obtain ⟨r3, er3, h⟩ := obind h
      refine call_R (va_runSN (As := [.int (rd_column μ), .int (rd_row μ)]) (rest := [.ref (r0)]) ⟨hx, hb, hml, hown, hts⟩ (c_X4_placeOf l z0 D t (rd_column μ) (rd_row μ) _ er3) ⟨kN hts (hC.2.1 _ qw225) qw1 qw227 ok_X4_placeOf ⟨Nat.le_of_ble_eq_true rfl, Nat.le_of_ble_eq_true rfl⟩, hts _ qw226, trivial⟩ ⟨PR.blind, fun U hU hW => ⟨rfl, by rw [hU]; exact (hC.at hS hZ).warm hW, by rw [hU]; exact va_P_nil⟩⟩ rfl rfl hl.1 rfl (lv_room (Nat.le_of_ble_eq_true rfl)) dX3_take_59 ⟨Nat.le_of_ble_eq_true rfl, Nat.le_of_ble_eq_true rfl⟩) ?_
      refine va_put (D := D) (ci := 4) (v := .int r3) (ty := .int) hx hb hts inX3 tyX3 tyX3_ok nmX3 hown hK hP hD hS 0 rfl rfl 2 (by decide) (hts _ qw185) (fun _ h9 => h9) rfl (by decide +kernel) rfl rfl (Nat.le_of_ble_eq_true rfl) dX3_take_62 (fun H locs hP hD hS => ?_)
      have hP : va_P D vwCl (RDW r0 t (rd_pond' μ r3)) H := hP
      have hD : va_D (OA (RDL r0) s.heap.size) (RDW r0 t (rd_pond' μ r3)) := hD
      have hSz : s.heap.size ≤ H.size := hS.1
      obtain rfl := Option.some.inj h
      exact hJ65_o2 ls H locs (lv_sub hl [0, 1] rfl) hP hD hS
  · have h := iteT hc h
    refine lv_aload_n hx hb dX3_take_6 rfl (lv_at hl 0 rfl) ?_
    refine lv_aload_n hx hb dX3_take_7 rfl (lv_at hl 0 rfl) ?_
    refine va_get hx hb hts inX3 hown hK hP 0 rfl rfl 1 (by decide) (hts _ qw183) (fun _ h9 => h9) rfl dX3_take_8 ?_
    obtain ⟨o10, eo10, h⟩ := obind h
    have hJ25_o10 : ∀ (ls : Array Slot) (H : Heap) (locs : List Loc), lv_has ls 2 [(0, .ref (r0))] → va_P D vwCl (RDW r0 t μ) H → va_D (OA (RDL r0) s.heap.size) (RDW r0 t μ) → va_S (OA (RDL r0) s.heap.size) s.heap H locs → W p l e (headSpec (ws_ yX3_take cX3_take 2 none) rm_X3_take).room s m ([.ref r0, .int a1] : List Value).toArray below meth c H locs 0 0 (MQ below (QM none D (RDW r0 t (rd_column' (rd_walls' (rd_pond' (rd_row' (rd_wide' μ res.1) res.2.1) res.2.2.1) res.2.2.2.1) res.2.2.2.2)) (RDL r0) s.heap.size) ([.ref r0, .int a1] : List Value).toArray s 0 0 (OA (RDL r0) s.heap.size)) (F0 m 25 ls [.int o10, .ref (r0)]) := by
      intro ls H locs hl hP hD hS
      have hSz : s.heap.size ≤ H.size := hS.1
      refine va_put (D := D) (ci := 4) (v := .int o10) (ty := .int) hx hb hts inX3 tyX3 tyX3_ok nmX3 hown hK hP hD hS 0 rfl rfl 0 (by decide) (hts _ qw181) (fun _ h9 => h9) rfl (by decide +kernel) rfl rfl (Nat.le_of_ble_eq_true rfl) dX3_take_25 (fun H locs hP hD hS => ?_)
      have hP : va_P D vwCl (RDW r0 t (rd_wide' μ o10)) H := hP
      have hD : va_D (OA (RDL r0) s.heap.size) (RDW r0 t (rd_wide' μ o10)) := hD
      have hSz : s.heap.size ≤ H.size := hS.1
      refine lv_aload_n hx hb dX3_take_28 rfl (lv_at hl 0 rfl) ?_
      refine lv_dup hx hb dX3_take_29 rfl ?_
      refine va_get hx hb hts inX3 hown hK hP 0 rfl rfl 1 (by decide) (hts _ qw183) (fun _ h9 => h9) rfl dX3_take_30 ?_
      refine lv_iconst (v := (1)) hx hb dX3_take_33 (by decide) ?_
      refine lv_iadd hx hb dX3_take_34 ?_
      obtain ⟨x11, ex11, h⟩ := jlet_some h
      refine topI ex11 ?_
      refine va_put (D := D) (ci := 4) (v := .int x11) (ty := .int) hx hb hts inX3 tyX3 tyX3_ok nmX3 hown hK hP hD hS 0 rfl rfl 1 (by decide) (hts _ qw183) (fun _ h9 => h9) rfl (by decide +kernel) rfl rfl (Nat.le_of_ble_eq_true rfl) dX3_take_35 (fun H locs hP hD hS => ?_)
      have hP : va_P D vwCl (RDW r0 t (rd_row' (rd_wide' μ o10) x11)) H := hP
      have hD : va_D (OA (RDL r0) s.heap.size) (RDW r0 t (rd_row' (rd_wide' μ o10) x11)) := hD
      have hSz : s.heap.size ≤ H.size := hS.1
      refine lv_aload_n hx hb dX3_take_38 rfl (lv_at hl 0 rfl) ?_
      refine lv_iconst (v := (0)) hx hb dX3_take_39 (by decide) ?_
      refine va_put (D := D) (ci := 4) (v := .int (0 : Int32)) (ty := .int) hx hb hts inX3 tyX3 tyX3_ok nmX3 hown hK hP hD hS 0 rfl rfl 4 (by decide) (hts _ qw189) (fun _ h9 => h9) rfl (by decide +kernel) rfl rfl (Nat.le_of_ble_eq_true rfl) dX3_take_40 (fun H locs hP hD hS => ?_)
      have hP : va_P D vwCl (RDW r0 t (rd_column' (rd_row' (rd_wide' μ o10) x11) (0 : Int32))) H := hP
      have hD : va_D (OA (RDL r0) s.heap.size) (RDW r0 t (rd_column' (rd_row' (rd_wide' μ o10) x11) (0 : Int32))) := hD
      have hSz : s.heap.size ≤ H.size := hS.1
      obtain rfl := Option.some.inj h
      exact W.vret hx hb hr (fun t ht hW => ⟨rfl, by rw [ht]; exact hP, hD, hS.F ht⟩) hS.2.2 dX3_take_43
    have h := eo10
    clear eo10
    refine lv_if_ne (tgt := 21) hx hb dX3_take_11 (by decide) (fun hc => ?_) (fun hc => ?_)
    · have h := iteF hc h
      refine lv_aload_n hx hb dX3_take_21 rfl (lv_at hl 0 rfl) ?_
      refine va_get hx hb hts inX3 hown hK hP 0 rfl rfl 0 (by decide) (hts _ qw181) (fun _ h9 => h9) rfl dX3_take_22 ?_
      obtain rfl := Option.some.inj h
      exact hJ25_o10 ls H locs (lv_sub hl [0] rfl) hP hD hS
    · have h := iteT hc h
      refine lv_aload_n hx hb dX3_take_14 rfl (lv_at hl 0 rfl) ?_
      refine va_get hx hb hts inX3 hown hK hP 0 rfl rfl 4 (by decide) (hts _ qw189) (fun _ h9 => h9) rfl dX3_take_15 ?_
      refine lv_goto (tgt := 25) hx hb dX3_take_18 (by decide) ?_
      obtain rfl := Option.some.inj h
      exact hJ25_o10 ls H locs (lv_sub hl [0] rfl) hP hD hS

abbrev rm_X0_readInto : Room := { frames := 3, cells := 0, slots := 0, locals := 82 }
theorem ok_X0_readInto : okY yX0_readInto 1 := ⟨by decide +kernel, by decide +kernel, by decide +kernel⟩
set_option maxHeartbeats 4000000 in
set_option maxRecDepth 100000 in
theorem c_X0_readInto (l : Launch) (z0 : Nat) (D : va_G) (t : Nat → ClassId) (E : Nat → Nat) (r0 : Nat) (μ : BRS) (res : Int32 × (Int32) × (Int32) × (Int32) × (Int64) × (Int32)) (sz : Nat) (h : f_X0_readInto μ = some res) : Met l yX0_readInto (ws_ yX0_readInto cX0_readInto 3 (some .int)) rm_X0_readInto (PM z0 D t [.ref (E 0), .ref r0] (BRW E r0 t μ) (BRL E r0) sz) (QM (some (.int res.1)) D (BRW E r0 t (br_column' (br_walls' (br_pond' (br_row' (br_wide' μ res.2.1) res.2.2.1) res.2.2.2.1) res.2.2.2.2.1) res.2.2.2.2.2)) (BRL E r0) sz) 0 0 (OA (BRL E r0) sz) := by
  refine Met.ofW (cc := cX0_readInto) (maxL := 3) (ret := (some .int)) (by decide) rfl ?_
  intro p e s m args below meth c s₁ Bo hml hv
  obtain ⟨rfl, hC, hsz, hP, hD, hZ⟩ := hv
  have hx := Bo.exec
  have hb := Bo.bytes
  have hr := Bo.returns
  have hts : ∀ w ∈ LA, w.before _ s = true := fun w hw => atoms_spec (ws := ws_ yX0_readInto cX0_readInto 3 (some .int)) Bo.pre w (List.mem_cons_of_mem _ hw)
  have hown : s.vm.findClass RX0 = some m.cls := findClass_of_methodNamed Bo.named
  have hlocks := Bo.notSynchronized
  have hK := hC.1
  subst hsz
  have hl := lv_entry ([.ref (E 0), .ref r0]) (n := 3) (Nat.le_of_ble_eq_true rfl)
  rw [lg_entry_eq]
  generalize (lg_sl ([.ref (E 0), .ref r0]) ++ List.replicate (3 - (lg_sl ([.ref (E 0), .ref r0])).length) Slot.unset).toArray = ls at hl ⊢
  have hl : lv_has ls 3 [(0, .ref (E 0)), (1, .ref r0)] := hl
  suffices K9 : ∀ (H : Heap) (locs : List Loc), va_P D vwCl (BRW E r0 t μ) H → va_S (OA (BRL E r0) s.heap.size) s.heap H locs → W p l e (headSpec (ws_ yX0_readInto cX0_readInto 3 (some .int)) rm_X0_readInto).room s m ([.ref (E 0), .ref r0] : List Value).toArray below meth c H locs 0 0 (MQ below (QM (some (.int res.1)) D (BRW E r0 t (br_column' (br_walls' (br_pond' (br_row' (br_wide' μ res.2.1) res.2.2.1) res.2.2.2.1) res.2.2.2.2.1) res.2.2.2.2.2)) (BRL E r0) s.heap.size) ([.ref (E 0), .ref r0] : List Value).toArray s 0 0 (OA (BRL E r0) s.heap.size)) (F0 m 0 ls []) from K9 s.heap [] hP va_S.rf
  intro H locs hP hS
  have hSz : s.heap.size ≤ H.size := hS.1
  unfold f_X0_readInto at h
  refine lv_iconst (v := (0)) hx hb dX0_readInto_0 (by decide) ?_
  refine lv_istore_n (lv' := [(2, .int (0 : Int32)), (0, .ref (E 0)), (1, .ref r0)]) hx hb dX0_readInto_1 rfl hl (by decide) rfl (fun ls hl => ?_)
  obtain ⟨o11, eo11, h⟩ := obind h
  have hL2 : ∀ (n : Nat) (y2_2 : Int32) (wide_2 : Int32) (row_2 : Int32) (pond_2 : Int32) (walls_2 : Int64) (column_2 : Int32) (o11 : ((Int32) × (Int32) × (Int32) × (Int64) × (Int32)) ⊕ (Int32 × (Int32) × (Int32) × (Int32) × (Int64) × (Int32))), f_X0_readInto_L2 μ n y2_2 wide_2 row_2 pond_2 walls_2 column_2 = some o11 → (∀ o11l, o11 = .inl o11l → ∀ (ls : Array Slot) (H : Heap) (locs : List Loc), lv_has ls 3 [(0, .ref (E 0))] → va_P D vwCl (BRW E r0 t (br_column' (br_walls' (br_pond' (br_row' (br_wide' μ o11l.1) o11l.2.1) o11l.2.2.1) o11l.2.2.2.1) o11l.2.2.2.2)) H → va_D (OA (BRL E r0) s.heap.size) (BRW E r0 t (br_column' (br_walls' (br_pond' (br_row' (br_wide' μ o11l.1) o11l.2.1) o11l.2.2.1) o11l.2.2.2.1) o11l.2.2.2.2)) → va_S (OA (BRL E r0) s.heap.size) s.heap H locs → W p l e (headSpec (ws_ yX0_readInto cX0_readInto 3 (some .int)) rm_X0_readInto).room s m ([.ref (E 0), .ref r0] : List Value).toArray below meth c H locs 0 0 (MQ below (QM (some (.int res.1)) D (BRW E r0 t (br_column' (br_walls' (br_pond' (br_row' (br_wide' μ res.2.1) res.2.2.1) res.2.2.2.1) res.2.2.2.2.1) res.2.2.2.2.2)) (BRL E r0) s.heap.size) ([.ref (E 0), .ref r0] : List Value).toArray s 0 0 (OA (BRL E r0) s.heap.size)) (F0 m 39 ls [])) → (∀ r9, o11 = .inr r9 → r9 = res) → ∀ (ls : Array Slot) (H : Heap) (locs : List Loc), lv_has ls 3 [(0, .ref (E 0)), (1, .ref r0), (2, .int y2_2)] → va_P D vwCl (BRW E r0 t (br_column' (br_walls' (br_pond' (br_row' (br_wide' μ wide_2) row_2) pond_2) walls_2) column_2)) H → va_D (OA (BRL E r0) s.heap.size) (BRW E r0 t (br_column' (br_walls' (br_pond' (br_row' (br_wide' μ wide_2) row_2) pond_2) walls_2) column_2)) → va_S (OA (BRL E r0) s.heap.size) s.heap H locs → W p l e (headSpec (ws_ yX0_readInto cX0_readInto 3 (some .int)) rm_X0_readInto).room s m ([.ref (E 0), .ref r0] : List Value).toArray below meth c H locs 0 0 (MQ below (QM (some (.int res.1)) D (BRW E r0 t (br_column' (br_walls' (br_pond' (br_row' (br_wide' μ res.2.1) res.2.2.1) res.2.2.2.1) res.2.2.2.2.1) res.2.2.2.2.2)) (BRL E r0) s.heap.size) ([.ref (E 0), .ref r0] : List Value).toArray s 0 0 (OA (BRL E r0) s.heap.size)) (F0 m 2 ls []) := by
    intro n
    induction n with
    | zero => intro y2_2 wide_2 row_2 pond_2 walls_2 column_2 o11 h; exact absurd h (fun z => by cases z)
    | succ n ih =>
      intro y2_2 wide_2 row_2 pond_2 walls_2 column_2 o11 h hK2 hR2 ls H locs hl hP hD hS
      replace h : f_X0_readInto_L2_b μ (f_X0_readInto_L2 μ n) y2_2 wide_2 row_2 pond_2 walls_2 column_2 = some o11 := h
      unfold f_X0_readInto_L2_b at h
      have hSz : s.heap.size ≤ H.size := hS.1
      refine lv_iload_n hx hb dX0_readInto_2 rfl (lv_at hl 2 rfl) ?_
      refine lv_aload_n hx hb dX0_readInto_3 rfl (lv_at hl 0 rfl) ?_
      refine va_get hx hb hts inX0 hown hK hP 0 rfl rfl 0 (by decide) (hts _ qw67) (fun _ h9 => h9) rfl dX0_readInto_4 ?_
      refine lv_icmp_ge (tgt := 39) hx hb dX0_readInto_7 (by decide) (fun hc => ?_) (fun hc => ?_)
      · have h := iteT hc h
        obtain rfl := Option.some.inj h
        exact hK2 _ rfl ls H locs (lv_sub hl [0] rfl) hP hD hS
      · have h := iteF hc h
        refine lv_aload_n hx hb dX0_readInto_10 rfl (lv_at hl 1 rfl) ?_
        refine lv_aload_n hx hb dX0_readInto_11 rfl (lv_at hl 0 rfl) ?_
        refine lv_iload_n hx hb dX0_readInto_12 rfl (lv_at hl 2 rfl) ?_
        obtain ⟨r12, er12, h⟩ := obind h
        refine call_R (va_runV (As := [.int y2_2]) (rest := [.ref r0]) ⟨hx, hb, hml, hown, hts⟩ (c_X0_codeAt l z0 D t E ((br_length μ), (br_codes μ)) y2_2 _ er12) (kV hts qw205 qw206 qw207 qw5 qw208 ok_X0_codeAt ⟨Nat.le_of_ble_eq_true rfl, Nat.le_of_ble_eq_true rfl⟩) ⟨PR.blind, va_recv hK (sub_BR_B (μ := br_column' (br_walls' (br_pond' (br_row' (br_wide' μ wide_2) row_2) pond_2) walls_2) column_2) hP) (ci := 1) (q0 := 0) rfl rfl, fun U hU hW => ⟨rfl, by rw [hU]; exact (hC.at hS hZ).warm hW, by rw [hU]; exact (sub_BR_B (μ := br_column' (br_walls' (br_pond' (br_row' (br_wide' μ wide_2) row_2) pond_2) walls_2) column_2) hP)⟩⟩ rfl rfl hl.1 rfl (lv_room (Nat.le_of_ble_eq_true rfl)) dX0_readInto_13 ⟨Nat.le_of_ble_eq_true rfl, Nat.le_of_ble_eq_true rfl⟩) ?_
        obtain ⟨r13, er13, h⟩ := obind h
        refine call_R (va_runV (As := [.int r12]) (rest := []) ⟨hx, hb, hml, hown, hts⟩ (c_X3_isNext l z0 D t r0 (wide_2, row_2, pond_2, walls_2, column_2) r12 _ er13) (kV hts qw209 qw210 qw211 qw20 qw212 ok_X3_isNext ⟨Nat.le_of_ble_eq_true rfl, Nat.le_of_ble_eq_true rfl⟩) ⟨PR.blind, va_recv hK (sub_BR_RD (μ := br_column' (br_walls' (br_pond' (br_row' (br_wide' μ wide_2) row_2) pond_2) walls_2) column_2) hP) (ci := 4) (q0 := 0) rfl rfl, fun U hU hW => ⟨rfl, by rw [hU]; exact (hC.at hS hZ).warm hW, by rw [hU]; exact (sub_BR_RD (μ := br_column' (br_walls' (br_pond' (br_row' (br_wide' μ wide_2) row_2) pond_2) walls_2) column_2) hP)⟩⟩ rfl rfl hl.1 rfl (lv_room (Nat.le_of_ble_eq_true rfl)) dX0_readInto_16 ⟨Nat.le_of_ble_eq_true rfl, Nat.le_of_ble_eq_true rfl⟩) ?_
        refine lv_if_ne (tgt := 24) hx hb dX0_readInto_19 (by decide) (fun hc => ?_) (fun hc => ?_)
        · have h := iteF hc h
          refine lv_aload_n hx hb dX0_readInto_24 rfl (lv_at hl 1 rfl) ?_
          refine lv_aload_n hx hb dX0_readInto_25 rfl (lv_at hl 0 rfl) ?_
          refine lv_iload_n hx hb dX0_readInto_26 rfl (lv_at hl 2 rfl) ?_
          obtain ⟨r14, er14, h⟩ := obind h
          refine call_R (va_runV (As := [.int y2_2]) (rest := [.ref r0]) ⟨hx, hb, hml, hown, hts⟩ (c_X0_codeAt l z0 D t E ((br_length μ), (br_codes μ)) y2_2 _ er14) (kV hts qw205 qw206 qw207 qw5 qw208 ok_X0_codeAt ⟨Nat.le_of_ble_eq_true rfl, Nat.le_of_ble_eq_true rfl⟩) ⟨PR.blind, va_recv hK (sub_BR_B (μ := br_column' (br_walls' (br_pond' (br_row' (br_wide' μ wide_2) row_2) pond_2) walls_2) column_2) hP) (ci := 1) (q0 := 0) rfl rfl, fun U hU hW => ⟨rfl, by rw [hU]; exact (hC.at hS hZ).warm hW, by rw [hU]; exact (sub_BR_B (μ := br_column' (br_walls' (br_pond' (br_row' (br_wide' μ wide_2) row_2) pond_2) walls_2) column_2) hP)⟩⟩ rfl rfl hl.1 rfl (lv_room (Nat.le_of_ble_eq_true rfl)) dX0_readInto_27 ⟨Nat.le_of_ble_eq_true rfl, Nat.le_of_ble_eq_true rfl⟩) ?_
          obtain ⟨r15, er15, h⟩ := obind h
          refine call_M (va_runV (As := [.int r14]) (rest := []) ⟨hx, hb, hml, hown, hts⟩ (c_X3_take l z0 D t r0 (wide_2, row_2, pond_2, walls_2, column_2) r14 _ H.size er15) (kV hts qw221 qw222 qw223 qw20 qw224 ok_X3_take ⟨Nat.le_of_ble_eq_true rfl, Nat.le_of_ble_eq_true rfl⟩) ⟨PM.blind, va_recv hK (sub_BR_RD (μ := br_column' (br_walls' (br_pond' (br_row' (br_wide' μ wide_2) row_2) pond_2) walls_2) column_2) hP) (ci := 4) (q0 := 0) rfl rfl, fun U hU hW => ⟨rfl, by rw [hU]; exact (hC.at hS hZ).warm hW, by rw [hU], by rw [hU]; exact (sub_BR_RD (μ := br_column' (br_walls' (br_pond' (br_row' (br_wide' μ wide_2) row_2) pond_2) walls_2) column_2) hP), ⟨(subD_BR_RD (μ := br_column' (br_walls' (br_pond' (br_row' (br_wide' μ wide_2) row_2) pond_2) walls_2) column_2) hD).1, fun _ _ h9 => Or.inl (in_map (L := (RDL r0)) rfl h9)⟩, fun q hq => hZ q (OA.ofD (subD_BR_RD (μ := br_column' (br_walls' (br_pond' (br_row' (br_wide' μ wide_2) row_2) pond_2) walls_2) column_2) hD) rfl hSz q hq)⟩⟩ rfl rfl hl.1 rfl (lv_room (Nat.le_of_ble_eq_true rfl)) dX0_readInto_30 ⟨Nat.le_of_ble_eq_true rfl, Nat.le_of_ble_eq_true rfl⟩) hS (OA.ofD (subD_BR_RD (μ := br_column' (br_walls' (br_pond' (br_row' (br_wide' μ wide_2) row_2) pond_2) walls_2) column_2) hD) rfl hSz) (fun H locs hP1 hD1 hS _ hk1 => ?_)
          obtain ⟨hP, hD⟩ := back_BR_RD (μ := br_column' (br_walls' (br_pond' (br_row' (br_wide' μ wide_2) row_2) pond_2) walls_2) column_2) hP hD hk1 hP1
          have hP : va_P D vwCl (BRW E r0 t (br_column' (br_walls' (br_pond' (br_row' (br_wide' μ r15.1) r15.2.1) r15.2.2.1) r15.2.2.2.1) r15.2.2.2.2)) H := hP
          have hD : va_D (OA (BRL E r0) s.heap.size) (BRW E r0 t (br_column' (br_walls' (br_pond' (br_row' (br_wide' μ r15.1) r15.2.1) r15.2.2.1) r15.2.2.2.1) r15.2.2.2.2)) := hD
          have hSz : s.heap.size ≤ H.size := hS.1
          obtain ⟨x16, ex16, h⟩ := jlet_some h
          refine lv_iinc (v := x16) (lv' := [(2, .int x16), (0, .ref (E 0)), (1, .ref r0)]) hx hb dX0_readInto_33 hl (k := 2) rfl (by rw [ex16]; rfl) (by decide) rfl (fun ls hl => ?_)
          refine lv_goto (tgt := 2) hx hb dX0_readInto_36 (by decide) ?_
          exact ih _ _ _ _ _ _ _ h hK2 hR2 ls H locs (lv_sub hl [1, 2, 0] rfl) hP hD hS
        · have h := iteT hc h
          refine lv_iload_n hx hb dX0_readInto_22 rfl (lv_at hl 2 rfl) ?_
          have e9 := hR2 _ (Option.some.inj h).symm
          subst e9
          exact W.iret hx hb hr (fun t ht hW => ⟨rfl, by rw [ht]; exact hP, hD, hS.F ht⟩) hS.2.2 dX0_readInto_23
  refine hL2 _ _ _ _ _ _ _ _ eo11 (fun o11l eq9 ls H locs hl hP hD hS => ?_) (fun r9 eq9 => ?_) ls H locs (lv_sub hl [1, 2, 0] rfl) hP hD hS
  · subst eq9
    replace h := sumL h
    have hSz : s.heap.size ≤ H.size := hS.1
    refine lv_aload_n hx hb dX0_readInto_39 rfl (lv_at hl 0 rfl) ?_
    refine va_get hx hb hts inX0 hown hK hP 0 rfl rfl 0 (by decide) (hts _ qw67) (fun _ h9 => h9) rfl dX0_readInto_40 ?_
    obtain rfl := Option.some.inj h
    exact W.iret hx hb hr (fun t ht hW => ⟨rfl, by rw [ht]; exact hP, hD, hS.F ht⟩) hS.2.2 dX0_readInto_43
  · subst eq9
    replace h := sumR h
    exact Option.some.inj h

abbrev rm_X1_blockCells : Room := { frames := 1, cells := 0, slots := 0, locals := 40 }
theorem ok_X1_blockCells : okY yX1_blockCells 4 := ⟨by decide +kernel, by decide +kernel, by decide +kernel⟩
set_option maxHeartbeats 4000000 in
set_option maxRecDepth 100000 in
theorem c_X1_blockCells (l : Launch) (z0 : Nat) (D : va_G) (t : Nat → ClassId) (a1 : Int32) (a2 : Int32) (a3 : Int32) (a4 : Int32) (res : Int64) (h : f_X1_blockCells a1 a2 a3 a4 = some res) : Met l yX1_blockCells (ws_ yX1_blockCells cX1_blockCells 7 (some .long)) rm_X1_blockCells (PR z0 D t [.int a1, .int a2, .int a3, .int a4] []) (QR (some (.long res))) 0 0 FN := by
  refine Met.ofW (cc := cX1_blockCells) (maxL := 7) (ret := (some .long)) (by decide) rfl ?_
  intro p e s m args below meth c s₁ Bo hml hv
  obtain ⟨rfl, hC, hP⟩ := hv
  have hx := Bo.exec
  have hb := Bo.bytes
  have hr := Bo.returns
  have hts : ∀ w ∈ LA, w.before _ s = true := fun w hw => atoms_spec (ws := ws_ yX1_blockCells cX1_blockCells 7 (some .long)) Bo.pre w (List.mem_cons_of_mem _ hw)
  have hown : s.vm.findClass RX1 = some m.cls := findClass_of_methodNamed Bo.named
  have hlocks := Bo.notSynchronized
  have hK := hC.1
  have hl := lv_entry ([.int a1, .int a2, .int a3, .int a4]) (n := 7) (Nat.le_of_ble_eq_true rfl)
  rw [lg_entry_eq]
  generalize (lg_sl ([.int a1, .int a2, .int a3, .int a4]) ++ List.replicate (7 - (lg_sl ([.int a1, .int a2, .int a3, .int a4])).length) Slot.unset).toArray = ls at hl ⊢
  have hl : lv_has ls 7 [(0, .int a1), (1, .int a2), (2, .int a3), (3, .int a4)] := hl
  unfold f_X1_blockCells at h
  refine lv_lconst (v := (0)) hx hb dX1_blockCells_0 (by decide) ?_
  refine lv_lstore (lv' := [(4, .long (0 : Int64)), (0, .int a1), (1, .int a2), (2, .int a3), (3, .int a4)]) hx hb dX1_blockCells_1 hl (by decide) rfl (fun ls hl => ?_)
  refine lv_iconst (v := (0)) hx hb dX1_blockCells_3 (by decide) ?_
  refine lv_istore (lv' := [(6, .int (0 : Int32)), (4, .long (0 : Int64)), (0, .int a1), (1, .int a2), (2, .int a3), (3, .int a4)]) hx hb dX1_blockCells_4 hl (by decide) rfl (fun ls hl => ?_)
  obtain ⟨o7, eo7, h⟩ := obind h
  have hL6 : ∀ (n : Nat) (y4_6 : Int64) (y6_6 : Int32) (o7 : Int64), f_X1_blockCells_L6 a1 a2 a3 a4 n y4_6 y6_6 = some o7 → (∀ (ls : Array Slot), lv_has ls 7 [(4, .long o7)] → W p l e (headSpec (ws_ yX1_blockCells cX1_blockCells 7 (some .long)) rm_X1_blockCells).room s m ([.int a1, .int a2, .int a3, .int a4] : List Value).toArray below meth c s.heap [] 0 0 (MQ below (QR (some (.long res))) ([.int a1, .int a2, .int a3, .int a4] : List Value).toArray s 0 0 FN) (F0 m 37 ls [])) → ∀ (ls : Array Slot), lv_has ls 7 [(0, .int a1), (1, .int a2), (2, .int a3), (3, .int a4), (4, .long y4_6), (6, .int y6_6)] → W p l e (headSpec (ws_ yX1_blockCells cX1_blockCells 7 (some .long)) rm_X1_blockCells).room s m ([.int a1, .int a2, .int a3, .int a4] : List Value).toArray below meth c s.heap [] 0 0 (MQ below (QR (some (.long res))) ([.int a1, .int a2, .int a3, .int a4] : List Value).toArray s 0 0 FN) (F0 m 6 ls []) := by
    intro n
    induction n with
    | zero => intro y4_6 y6_6 o7 h; exact absurd h (fun z => by cases z)
    | succ n ih =>
      intro y4_6 y6_6 o7 h hK6 ls hl
      replace h : f_X1_blockCells_L6_b a1 a2 a3 a4 (f_X1_blockCells_L6 a1 a2 a3 a4 n) y4_6 y6_6 = some o7 := h
      unfold f_X1_blockCells_L6_b at h
      refine lv_iload hx hb dX1_blockCells_6 (lv_at hl 5 rfl) ?_
      refine lv_iload_n hx hb dX1_blockCells_8 rfl (lv_at hl 3 rfl) ?_
      refine lv_icmp_ge (tgt := 37) hx hb dX1_blockCells_9 (by decide) (fun hc => ?_) (fun hc => ?_)
      · have h := iteT hc h
        obtain rfl := Option.some.inj h
        exact hK6 ls (lv_sub hl [4] rfl)
      · have h := iteF hc h
        refine lv_lload hx hb dX1_blockCells_12 (lv_at hl 4 rfl) ?_
        refine lv_lconst (v := (1)) hx hb dX1_blockCells_14 (by decide) ?_
        refine lv_iload_n hx hb dX1_blockCells_15 rfl (lv_at hl 2 rfl) ?_
        refine lv_lshl hx hb dX1_blockCells_16 rfl ?_
        refine lv_lconst (v := (1)) hx hb dX1_blockCells_17 (by decide) ?_
        refine lv_lsub hx hb dX1_blockCells_18 ?_
        refine lv_iload_n hx hb dX1_blockCells_19 rfl (lv_at hl 0 rfl) ?_
        refine lv_iload_n hx hb dX1_blockCells_20 rfl (lv_at hl 1 rfl) ?_
        refine lv_iload hx hb dX1_blockCells_21 (lv_at hl 5 rfl) ?_
        refine lv_iadd hx hb dX1_blockCells_23 ?_
        obtain ⟨r8, er8, h⟩ := obind h
        refine call_R (va_runSN (As := [.int a1, .int (a2 + y6_6)]) (rest := [.long (((1 : Int64) <<< (a3.toInt64 &&& 63)) - (1 : Int64)), .long y4_6]) ⟨hx, hb, hml, hown, hts⟩ (c_X4_placeOf l z0 D t a1 (a2 + y6_6) _ er8) ⟨kN hts (hC.2.1 _ qw243) qw1 qw227 ok_X4_placeOf ⟨Nat.le_of_ble_eq_true rfl, Nat.le_of_ble_eq_true rfl⟩, hts _ qw226, trivial⟩ ⟨PR.blind, fun U hU hW => ⟨rfl, by rw [hU]; exact hC.warm hW, by rw [hU]; exact va_P_nil⟩⟩ rfl rfl hl.1 rfl (lv_room (Nat.le_of_ble_eq_true rfl)) dX1_blockCells_24 ⟨Nat.le_of_ble_eq_true rfl, Nat.le_of_ble_eq_true rfl⟩) ?_
        refine lv_lshl hx hb dX1_blockCells_27 rfl ?_
        refine lv_lor hx hb dX1_blockCells_28 ?_
        obtain ⟨x9, ex9, h⟩ := jlet_some h
        refine topJ ex9 ?_
        refine lv_lstore (lv' := [(4, .long x9), (0, .int a1), (1, .int a2), (2, .int a3), (3, .int a4), (6, .int y6_6)]) hx hb dX1_blockCells_29 hl (by decide) rfl (fun ls hl => ?_)
        obtain ⟨x10, ex10, h⟩ := jlet_some h
        refine lv_iinc (v := x10) (lv' := [(6, .int x10), (4, .long x9), (0, .int a1), (1, .int a2), (2, .int a3), (3, .int a4)]) hx hb dX1_blockCells_31 hl (k := 5) rfl (by rw [ex10]; rfl) (by decide) rfl (fun ls hl => ?_)
        refine lv_goto (tgt := 6) hx hb dX1_blockCells_34 (by decide) ?_
        exact ih _ _ _ h hK6 ls (lv_sub hl [2, 3, 4, 5, 1, 0] rfl)
  refine hL6 _ _ _ _ eo7 (fun ls hl => ?_) ls (lv_sub hl [2, 3, 4, 5, 1, 0] rfl)
  refine lv_lload hx hb dX1_blockCells_37 (lv_at hl 0 rfl) ?_
  obtain rfl := Option.some.inj h
  exact W.lret hx hb hr (fun t ht hW => ⟨rfl, ht⟩) (fun q hq => absurd hq List.not_mem_nil) dX1_blockCells_39

abbrev rm_X1_pondCell : Room := { frames := 0, cells := 0, slots := 0, locals := 0 }
theorem ok_X1_pondCell : okY yX1_pondCell 0 := ⟨by decide +kernel, by decide +kernel, by decide +kernel⟩
set_option maxHeartbeats 4000000 in
set_option maxRecDepth 100000 in
theorem c_X1_pondCell (l : Launch) (z0 : Nat) (D : va_G) (t : Nat → ClassId) (G : Nat → Nat) (μ : GS) (res : Int64) (h : f_X1_pondCell μ = some res) : Met l yX1_pondCell (ws_ yX1_pondCell cX1_pondCell 1 (some .long)) rm_X1_pondCell (PR z0 D t [.ref (G 0)] (GW G t μ)) (QR (some (.long res))) 0 0 FN := by
  refine Met.ofW (cc := cX1_pondCell) (maxL := 1) (ret := (some .long)) (by decide) rfl ?_
  intro p e s m args below meth c s₁ Bo hml hv
  obtain ⟨rfl, hC, hP⟩ := hv
  have hx := Bo.exec
  have hb := Bo.bytes
  have hr := Bo.returns
  have hts : ∀ w ∈ LA, w.before _ s = true := fun w hw => atoms_spec (ws := ws_ yX1_pondCell cX1_pondCell 1 (some .long)) Bo.pre w (List.mem_cons_of_mem _ hw)
  have hown : s.vm.findClass RX1 = some m.cls := findClass_of_methodNamed Bo.named
  have hlocks := Bo.notSynchronized
  have hK := hC.1
  have hl := lv_entry ([.ref (G 0)]) (n := 1) (Nat.le_of_ble_eq_true rfl)
  rw [lg_entry_eq]
  generalize (lg_sl ([.ref (G 0)]) ++ List.replicate (1 - (lg_sl ([.ref (G 0)])).length) Slot.unset).toArray = ls at hl ⊢
  have hl : lv_has ls 1 [(0, .ref (G 0))] := hl
  unfold f_X1_pondCell at h
  refine lv_lconst (v := (1)) hx hb dX1_pondCell_0 (by decide) ?_
  refine lv_aload_n hx hb dX1_pondCell_1 rfl (lv_at hl 0 rfl) ?_
  refine va_get hx hb hts inX1 hown hK hP 0 rfl rfl 2 (by decide) (hts _ qw123) (fun _ h9 => h9) rfl dX1_pondCell_2 ?_
  refine lv_lshl hx hb dX1_pondCell_5 rfl ?_
  obtain rfl := Option.some.inj h
  exact W.lret hx hb hr (fun t ht hW => ⟨rfl, ht⟩) (fun q hq => absurd hq List.not_mem_nil) dX1_pondCell_6

abbrev rm_X1_freeCells : Room := { frames := 2, cells := 0, slots := 0, locals := 66 }
theorem ok_X1_freeCells : okY yX1_freeCells 0 := ⟨by decide +kernel, by decide +kernel, by decide +kernel⟩
set_option maxHeartbeats 4000000 in
set_option maxRecDepth 100000 in
theorem c_X1_freeCells (l : Launch) (z0 : Nat) (D : va_G) (t : Nat → ClassId) (G : Nat → Nat) (μ : GS) (res : Int64) (h : f_X1_freeCells μ = some res) : Met l yX1_freeCells (ws_ yX1_freeCells cX1_freeCells 1 (some .long)) rm_X1_freeCells (PR z0 D t [.ref (G 0)] (GW G t μ)) (QR (some (.long res))) 0 0 FN := by
  refine Met.ofW (cc := cX1_freeCells) (maxL := 1) (ret := (some .long)) (by decide) rfl ?_
  intro p e s m args below meth c s₁ Bo hml hv
  obtain ⟨rfl, hC, hP⟩ := hv
  have hx := Bo.exec
  have hb := Bo.bytes
  have hr := Bo.returns
  have hts : ∀ w ∈ LA, w.before _ s = true := fun w hw => atoms_spec (ws := ws_ yX1_freeCells cX1_freeCells 1 (some .long)) Bo.pre w (List.mem_cons_of_mem _ hw)
  have hown : s.vm.findClass RX1 = some m.cls := findClass_of_methodNamed Bo.named
  have hlocks := Bo.notSynchronized
  have hK := hC.1
  have hl := lv_entry ([.ref (G 0)]) (n := 1) (Nat.le_of_ble_eq_true rfl)
  rw [lg_entry_eq]
  generalize (lg_sl ([.ref (G 0)]) ++ List.replicate (1 - (lg_sl ([.ref (G 0)])).length) Slot.unset).toArray = ls at hl ⊢
  have hl : lv_has ls 1 [(0, .ref (G 0))] := hl
  unfold f_X1_freeCells at h
  refine lv_iconst (v := (0)) hx hb dX1_freeCells_0 (by decide) ?_
  refine lv_iconst (v := (0)) hx hb dX1_freeCells_1 (by decide) ?_
  refine lv_aload_n hx hb dX1_freeCells_2 rfl (lv_at hl 0 rfl) ?_
  refine va_get hx hb hts inX1 hown hK hP 0 rfl rfl 0 (by decide) (hts _ qw119) (fun _ h9 => h9) rfl dX1_freeCells_3 ?_
  refine lv_aload_n hx hb dX1_freeCells_6 rfl (lv_at hl 0 rfl) ?_
  refine va_get hx hb hts inX1 hown hK hP 0 rfl rfl 1 (by decide) (hts _ qw121) (fun _ h9 => h9) rfl dX1_freeCells_7 ?_
  obtain ⟨r1, er1, h⟩ := obind h
  refine call_R (va_runS (As := [.int (0 : Int32), .int (0 : Int32), .int (g_wide μ), .int (g_high μ)]) (rest := []) ⟨hx, hb, hml, hown, hts⟩ (c_X1_blockCells l z0 D t (0 : Int32) (0 : Int32) (g_wide μ) (g_high μ) _ er1) (kS hts qw240 qw241 qw8 qw242 ok_X1_blockCells ⟨Nat.le_of_ble_eq_true rfl, Nat.le_of_ble_eq_true rfl⟩) ⟨PR.blind, fun U hU hW => ⟨rfl, by rw [hU]; exact hC.warm hW, by rw [hU]; exact va_P_nil⟩⟩ rfl rfl hl.1 rfl (lv_room (Nat.le_of_ble_eq_true rfl)) dX1_freeCells_10 ⟨Nat.le_of_ble_eq_true rfl, Nat.le_of_ble_eq_true rfl⟩) ?_
  refine lv_aload_n hx hb dX1_freeCells_13 rfl (lv_at hl 0 rfl) ?_
  refine va_get hx hb hts inX1 hown hK hP 0 rfl rfl 3 (by decide) (hts _ qw125) (fun _ h9 => h9) rfl dX1_freeCells_14 ?_
  refine lv_aload_n hx hb dX1_freeCells_17 rfl (lv_at hl 0 rfl) ?_
  refine va_get hx hb hts inX1 hown hK hP 0 rfl rfl 4 (by decide) (hts _ qw127) (fun _ h9 => h9) rfl dX1_freeCells_18 ?_
  refine lv_lor hx hb dX1_freeCells_21 ?_
  refine lv_aload_n hx hb dX1_freeCells_22 rfl (lv_at hl 0 rfl) ?_
  obtain ⟨r2, er2, h⟩ := obind h
  refine call_R (va_runV (As := []) (rest := [.long ((g_walls μ) ||| (g_paved μ)), .long r1]) ⟨hx, hb, hml, hown, hts⟩ (c_X1_pondCell l z0 D t G μ _ er2) (kV hts qw244 qw245 qw246 qw8 qw247 ok_X1_pondCell ⟨Nat.le_of_ble_eq_true rfl, Nat.le_of_ble_eq_true rfl⟩) ⟨PR.blind, va_recv hK hP (ci := 2) (q0 := 0) rfl rfl, fun U hU hW => ⟨rfl, by rw [hU]; exact hC.warm hW, by rw [hU]; exact hP⟩⟩ rfl rfl hl.1 rfl (lv_room (Nat.le_of_ble_eq_true rfl)) dX1_freeCells_23 ⟨Nat.le_of_ble_eq_true rfl, Nat.le_of_ble_eq_true rfl⟩) ?_
  refine lv_lor hx hb dX1_freeCells_26 ?_
  refine lv_ldc2 (v := (-1)) hx hb hown (hts _ qw248) dX1_freeCells_27 ?_
  refine lv_lxor hx hb dX1_freeCells_30 ?_
  refine lv_land hx hb dX1_freeCells_31 ?_
  obtain rfl := Option.some.inj h
  exact W.lret hx hb hr (fun t ht hW => ⟨rfl, ht⟩) (fun q hq => absurd hq List.not_mem_nil) dX1_freeCells_32

abbrev rm_J13_bitCount_95d88 : Room := { frames := 0, cells := 0, slots := 0, locals := 0 }
theorem ok_J13_bitCount_95d88 : okY yJ13_bitCount_95d88 1 := ⟨by decide +kernel, by decide +kernel, by decide +kernel⟩
set_option maxHeartbeats 4000000 in
set_option maxRecDepth 100000 in
theorem c_J13_bitCount_95d88 (l : Launch) (z0 : Nat) (D : va_G) (t : Nat → ClassId) (a1 : Int64) (res : Int32) (h : f_J13_bitCount_95d88 a1 = some res) : Met l yJ13_bitCount_95d88 (ws_ yJ13_bitCount_95d88 cJ13_bitCount_95d88 2 (some .int)) rm_J13_bitCount_95d88 (PR z0 D t [.long a1] []) (QR (some (.int res))) 0 0 FN := by
  refine Met.ofW (cc := cJ13_bitCount_95d88) (maxL := 2) (ret := (some .int)) (by decide) rfl ?_
  intro p e s m args below meth c s₁ Bo hml hv
  obtain ⟨rfl, hC, hP⟩ := hv
  have hx := Bo.exec
  have hb := Bo.bytes
  have hr := Bo.returns
  have hts : ∀ w ∈ LA, w.before _ s = true := fun w hw => atoms_spec (ws := ws_ yJ13_bitCount_95d88 cJ13_bitCount_95d88 2 (some .int)) Bo.pre w (List.mem_cons_of_mem _ hw)
  have hown : s.vm.findClass RJ13 = some m.cls := findClass_of_methodNamed Bo.named
  have hlocks := Bo.notSynchronized
  have hK := hC.1
  have hl := lv_entry ([.long a1]) (n := 2) (Nat.le_of_ble_eq_true rfl)
  rw [lg_entry_eq]
  generalize (lg_sl ([.long a1]) ++ List.replicate (2 - (lg_sl ([.long a1])).length) Slot.unset).toArray = ls at hl ⊢
  have hl : lv_has ls 2 [(0, .long a1)] := hl
  unfold f_J13_bitCount_95d88 at h
  refine lv_lload_n hx hb dJ13_bitCount_95d88_0 rfl (lv_at hl 0 rfl) ?_
  refine lv_lload_n hx hb dJ13_bitCount_95d88_1 rfl (lv_at hl 0 rfl) ?_
  refine lv_iconst (v := (1)) hx hb dJ13_bitCount_95d88_2 (by decide) ?_
  refine lv_lushr hx hb dJ13_bitCount_95d88_3 rfl ?_
  refine lv_ldc2 (v := (6148914691236517205)) hx hb hown (hts _ qw256) dJ13_bitCount_95d88_4 ?_
  refine lv_land hx hb dJ13_bitCount_95d88_7 ?_
  refine lv_lsub hx hb dJ13_bitCount_95d88_8 ?_
  obtain ⟨x1, ex1, h⟩ := jlet_some h
  refine topJ ex1 ?_
  refine lv_lstore_n (lv' := [(0, .long x1)]) hx hb dJ13_bitCount_95d88_9 rfl hl (by decide) rfl (fun ls hl => ?_)
  refine lv_lload_n hx hb dJ13_bitCount_95d88_10 rfl (lv_at hl 0 rfl) ?_
  refine lv_ldc2 (v := (3689348814741910323)) hx hb hown (hts _ qw257) dJ13_bitCount_95d88_11 ?_
  refine lv_land hx hb dJ13_bitCount_95d88_14 ?_
  refine lv_lload_n hx hb dJ13_bitCount_95d88_15 rfl (lv_at hl 0 rfl) ?_
  refine lv_iconst (v := (2)) hx hb dJ13_bitCount_95d88_16 (by decide) ?_
  refine lv_lushr hx hb dJ13_bitCount_95d88_17 rfl ?_
  refine lv_ldc2 (v := (3689348814741910323)) hx hb hown (hts _ qw257) dJ13_bitCount_95d88_18 ?_
  refine lv_land hx hb dJ13_bitCount_95d88_21 ?_
  refine lv_ladd hx hb dJ13_bitCount_95d88_22 ?_
  obtain ⟨x2, ex2, h⟩ := jlet_some h
  refine topJ ex2 ?_
  refine lv_lstore_n (lv' := [(0, .long x2)]) hx hb dJ13_bitCount_95d88_23 rfl hl (by decide) rfl (fun ls hl => ?_)
  refine lv_lload_n hx hb dJ13_bitCount_95d88_24 rfl (lv_at hl 0 rfl) ?_
  refine lv_lload_n hx hb dJ13_bitCount_95d88_25 rfl (lv_at hl 0 rfl) ?_
  refine lv_iconst (v := (4)) hx hb dJ13_bitCount_95d88_26 (by decide) ?_
  refine lv_lushr hx hb dJ13_bitCount_95d88_27 rfl ?_
  refine lv_ladd hx hb dJ13_bitCount_95d88_28 ?_
  refine lv_ldc2 (v := (1085102592571150095)) hx hb hown (hts _ qw258) dJ13_bitCount_95d88_29 ?_
  refine lv_land hx hb dJ13_bitCount_95d88_32 ?_
  obtain ⟨x3, ex3, h⟩ := jlet_some h
  refine topJ ex3 ?_
  refine lv_lstore_n (lv' := [(0, .long x3)]) hx hb dJ13_bitCount_95d88_33 rfl hl (by decide) rfl (fun ls hl => ?_)
  refine lv_lload_n hx hb dJ13_bitCount_95d88_34 rfl (lv_at hl 0 rfl) ?_
  refine lv_lload_n hx hb dJ13_bitCount_95d88_35 rfl (lv_at hl 0 rfl) ?_
  refine lv_bipush (v := (8)) hx hb dJ13_bitCount_95d88_36 (by decide) ?_
  refine lv_lushr hx hb dJ13_bitCount_95d88_38 rfl ?_
  refine lv_ladd hx hb dJ13_bitCount_95d88_39 ?_
  obtain ⟨x4, ex4, h⟩ := jlet_some h
  refine topJ ex4 ?_
  refine lv_lstore_n (lv' := [(0, .long x4)]) hx hb dJ13_bitCount_95d88_40 rfl hl (by decide) rfl (fun ls hl => ?_)
  refine lv_lload_n hx hb dJ13_bitCount_95d88_41 rfl (lv_at hl 0 rfl) ?_
  refine lv_lload_n hx hb dJ13_bitCount_95d88_42 rfl (lv_at hl 0 rfl) ?_
  refine lv_bipush (v := (16)) hx hb dJ13_bitCount_95d88_43 (by decide) ?_
  refine lv_lushr hx hb dJ13_bitCount_95d88_45 rfl ?_
  refine lv_ladd hx hb dJ13_bitCount_95d88_46 ?_
  obtain ⟨x5, ex5, h⟩ := jlet_some h
  refine topJ ex5 ?_
  refine lv_lstore_n (lv' := [(0, .long x5)]) hx hb dJ13_bitCount_95d88_47 rfl hl (by decide) rfl (fun ls hl => ?_)
  refine lv_lload_n hx hb dJ13_bitCount_95d88_48 rfl (lv_at hl 0 rfl) ?_
  refine lv_lload_n hx hb dJ13_bitCount_95d88_49 rfl (lv_at hl 0 rfl) ?_
  refine lv_bipush (v := (32)) hx hb dJ13_bitCount_95d88_50 (by decide) ?_
  refine lv_lushr hx hb dJ13_bitCount_95d88_52 rfl ?_
  refine lv_ladd hx hb dJ13_bitCount_95d88_53 ?_
  obtain ⟨x6, ex6, h⟩ := jlet_some h
  refine topJ ex6 ?_
  refine lv_lstore_n (lv' := [(0, .long x6)]) hx hb dJ13_bitCount_95d88_54 rfl hl (by decide) rfl (fun ls hl => ?_)
  refine lv_lload_n hx hb dJ13_bitCount_95d88_55 rfl (lv_at hl 0 rfl) ?_
  refine lv_l2i hx hb dJ13_bitCount_95d88_56 rfl ?_
  refine lv_bipush (v := (127)) hx hb dJ13_bitCount_95d88_57 (by decide) ?_
  refine lv_iand hx hb dJ13_bitCount_95d88_59 ?_
  obtain rfl := Option.some.inj h
  exact W.iret hx hb hr (fun t ht hW => ⟨rfl, ht⟩) (fun q hq => absurd hq List.not_mem_nil) dJ13_bitCount_95d88_60

abbrev rm_X6_windowAt : Room := { frames := 0, cells := 0, slots := 0, locals := 0 }
theorem ok_X6_windowAt : okY yX6_windowAt 1 := ⟨by decide +kernel, by decide +kernel, by decide +kernel⟩
set_option maxHeartbeats 4000000 in
set_option maxRecDepth 100000 in
theorem c_X6_windowAt (l : Launch) (z0 : Nat) (D : va_G) (t : Nat → ClassId) (r : Nat → Nat) (μ : RES) (a1 : Int32) (res : Int32) (h : f_X6_windowAt μ a1 = some res) : Met l yX6_windowAt (ws_ yX6_windowAt cX6_windowAt 2 (some .int)) rm_X6_windowAt (PR z0 D t [.ref (r 0), .int a1] (REW r t μ)) (QR (some (.int res))) 0 0 FN := by
  refine Met.ofW (cc := cX6_windowAt) (maxL := 2) (ret := (some .int)) (by decide) rfl ?_
  intro p e s m args below meth c s₁ Bo hml hv
  obtain ⟨rfl, hC, hP⟩ := hv
  have hx := Bo.exec
  have hb := Bo.bytes
  have hr := Bo.returns
  have hts : ∀ w ∈ LA, w.before _ s = true := fun w hw => atoms_spec (ws := ws_ yX6_windowAt cX6_windowAt 2 (some .int)) Bo.pre w (List.mem_cons_of_mem _ hw)
  have hown : s.vm.findClass RX6 = some m.cls := findClass_of_methodNamed Bo.named
  have hlocks := Bo.notSynchronized
  have hK := hC.1
  have hl := lv_entry ([.ref (r 0), .int a1]) (n := 2) (Nat.le_of_ble_eq_true rfl)
  rw [lg_entry_eq]
  generalize (lg_sl ([.ref (r 0), .int a1]) ++ List.replicate (2 - (lg_sl ([.ref (r 0), .int a1])).length) Slot.unset).toArray = ls at hl ⊢
  have hl : lv_has ls 2 [(0, .ref (r 0)), (1, .int a1)] := hl
  unfold f_X6_windowAt at h
  refine lv_iload_n hx hb dX6_windowAt_0 rfl (lv_at hl 1 rfl) ?_
  refine lv_if_lt (tgt := 22) hx hb dX6_windowAt_1 (by decide) (fun hc => ?_) (fun hc => ?_)
  · have h := iteT hc h
    refine lv_iconst (v := (0)) hx hb dX6_windowAt_22 (by decide) ?_
    obtain rfl := Option.some.inj h
    exact W.iret hx hb hr (fun t ht hW => ⟨rfl, ht⟩) (fun q hq => absurd hq List.not_mem_nil) dX6_windowAt_23
  · have h := iteF hc h
    refine lv_iload_n hx hb dX6_windowAt_4 rfl (lv_at hl 1 rfl) ?_
    refine lv_aload_n hx hb dX6_windowAt_5 rfl (lv_at hl 0 rfl) ?_
    refine va_get hx hb hts inX6 hown hK hP 0 rfl rfl 1 (by decide) (hts _ qw92) (fun _ h9 => h9) rfl dX6_windowAt_6 ?_
    refine va_alen hx hb hK hP 1 0 rfl rfl (v := 512) rfl dX6_windowAt_9 ?_
    refine lv_icmp_ge (tgt := 22) hx hb dX6_windowAt_10 (by decide) (fun hc => ?_) (fun hc => ?_)
    · have h := iteT hc h
      refine lv_iconst (v := (0)) hx hb dX6_windowAt_22 (by decide) ?_
      obtain rfl := Option.some.inj h
      exact W.iret hx hb hr (fun t ht hW => ⟨rfl, ht⟩) (fun q hq => absurd hq List.not_mem_nil) dX6_windowAt_23
    · have h := iteF hc h
      refine lv_aload_n hx hb dX6_windowAt_13 rfl (lv_at hl 0 rfl) ?_
      refine va_get hx hb hts inX6 hown hK hP 0 rfl rfl 1 (by decide) (hts _ qw92) (fun _ h9 => h9) rfl dX6_windowAt_14 ?_
      refine lv_iload_n hx hb dX6_windowAt_17 rfl (lv_at hl 1 rfl) ?_
      obtain ⟨v1, ev1, h⟩ := obind h
      refine k_iald hx hb hK hP 1 rfl ev1 dX6_windowAt_18 ?_
      refine lv_goto (tgt := 23) hx hb dX6_windowAt_19 (by decide) ?_
      obtain rfl := Option.some.inj h
      exact W.iret hx hb hr (fun t ht hW => ⟨rfl, ht⟩) (fun q hq => absurd hq List.not_mem_nil) dX6_windowAt_23

abbrev rm_X6_clear : Room := { frames := 1, cells := 0, slots := 0, locals := 21 }
theorem ok_X6_clear : okY yX6_clear 0 := ⟨by decide +kernel, by decide +kernel, by decide +kernel⟩
set_option maxHeartbeats 4000000 in
set_option maxRecDepth 100000 in
theorem c_X6_clear (l : Launch) (z0 : Nat) (D : va_G) (t : Nat → ClassId) (r : Nat → Nat) (μ : RES) (res : (Int32) × (Nat → Int32)) (sz : Nat) (h : f_X6_clear μ = some res) : Met l yX6_clear (ws_ yX6_clear cX6_clear 2 none) rm_X6_clear (PM z0 D t [.ref (r 0)] (REW r t μ) (REL r) sz) (QM none D (REW r t (re_way' (re_size' μ res.1) res.2)) (REL r) sz) 0 0 (OA (REL r) sz) := by
  refine Met.ofW (cc := cX6_clear) (maxL := 2) (ret := none) (by decide) rfl ?_
  intro p e s m args below meth c s₁ Bo hml hv
  obtain ⟨rfl, hC, hsz, hP, hD, hZ⟩ := hv
  have hx := Bo.exec
  have hb := Bo.bytes
  have hr := Bo.returns
  have hts : ∀ w ∈ LA, w.before _ s = true := fun w hw => atoms_spec (ws := ws_ yX6_clear cX6_clear 2 none) Bo.pre w (List.mem_cons_of_mem _ hw)
  have hown : s.vm.findClass RX6 = some m.cls := findClass_of_methodNamed Bo.named
  have hlocks := Bo.notSynchronized
  have hK := hC.1
  subst hsz
  have hl := lv_entry ([.ref (r 0)]) (n := 2) (Nat.le_of_ble_eq_true rfl)
  rw [lg_entry_eq]
  generalize (lg_sl ([.ref (r 0)]) ++ List.replicate (2 - (lg_sl ([.ref (r 0)])).length) Slot.unset).toArray = ls at hl ⊢
  have hl : lv_has ls 2 [(0, .ref (r 0))] := hl
  suffices K9 : ∀ (H : Heap) (locs : List Loc), va_P D vwCl (REW r t μ) H → va_S (OA (REL r) s.heap.size) s.heap H locs → W p l e (headSpec (ws_ yX6_clear cX6_clear 2 none) rm_X6_clear).room s m ([.ref (r 0)] : List Value).toArray below meth c H locs 0 0 (MQ below (QM none D (REW r t (re_way' (re_size' μ res.1) res.2)) (REL r) s.heap.size) ([.ref (r 0)] : List Value).toArray s 0 0 (OA (REL r) s.heap.size)) (F0 m 0 ls []) from K9 s.heap [] hP va_S.rf
  intro H locs hP hS
  have hSz : s.heap.size ≤ H.size := hS.1
  unfold f_X6_clear at h
  refine lv_iconst (v := (0)) hx hb dX6_clear_0 (by decide) ?_
  refine lv_istore_n (lv' := [(1, .int (0 : Int32)), (0, .ref (r 0))]) hx hb dX6_clear_1 rfl hl (by decide) rfl (fun ls hl => ?_)
  obtain ⟨o7, eo7, h⟩ := obind h
  have hL2 : ∀ (n : Nat) (y1_2 : Int32) (way_2 : Nat → Int32) (o7 : (Nat → Int32)), f_X6_clear_L2 μ n y1_2 way_2 = some o7 → (∀ (ls : Array Slot) (H : Heap) (locs : List Loc), lv_has ls 2 [(0, .ref (r 0))] → va_P D vwCl (REW r t (re_way' μ o7)) H → va_D (OA (REL r) s.heap.size) (REW r t (re_way' μ o7)) → va_S (OA (REL r) s.heap.size) s.heap H locs → W p l e (headSpec (ws_ yX6_clear cX6_clear 2 none) rm_X6_clear).room s m ([.ref (r 0)] : List Value).toArray below meth c H locs 0 0 (MQ below (QM none D (REW r t (re_way' (re_size' μ res.1) res.2)) (REL r) s.heap.size) ([.ref (r 0)] : List Value).toArray s 0 0 (OA (REL r) s.heap.size)) (F0 m 27 ls [])) → ∀ (ls : Array Slot) (H : Heap) (locs : List Loc), lv_has ls 2 [(0, .ref (r 0)), (1, .int y1_2)] → va_P D vwCl (REW r t (re_way' μ way_2)) H → va_D (OA (REL r) s.heap.size) (REW r t (re_way' μ way_2)) → va_S (OA (REL r) s.heap.size) s.heap H locs → W p l e (headSpec (ws_ yX6_clear cX6_clear 2 none) rm_X6_clear).room s m ([.ref (r 0)] : List Value).toArray below meth c H locs 0 0 (MQ below (QM none D (REW r t (re_way' (re_size' μ res.1) res.2)) (REL r) s.heap.size) ([.ref (r 0)] : List Value).toArray s 0 0 (OA (REL r) s.heap.size)) (F0 m 2 ls []) := by
    intro n
    induction n with
    | zero => intro y1_2 way_2 o7 h; exact absurd h (fun z => by cases z)
    | succ n ih =>
      intro y1_2 way_2 o7 h hK2 ls H locs hl hP hD hS
      replace h : f_X6_clear_L2_b μ (f_X6_clear_L2 μ n) y1_2 way_2 = some o7 := h
      unfold f_X6_clear_L2_b at h
      have hSz : s.heap.size ≤ H.size := hS.1
      refine lv_iload_n hx hb dX6_clear_2 rfl (lv_at hl 1 rfl) ?_
      refine lv_aload_n hx hb dX6_clear_3 rfl (lv_at hl 0 rfl) ?_
      refine va_get hx hb hts inX6 hown hK hP 0 rfl rfl 0 (by decide) (hts _ qw90) (fun _ h9 => h9) rfl dX6_clear_4 ?_
      refine lv_icmp_ge (tgt := 27) hx hb dX6_clear_7 (by decide) (fun hc => ?_) (fun hc => ?_)
      · have h := iteT hc h
        obtain rfl := Option.some.inj h
        exact hK2 ls H locs (lv_sub hl [0] rfl) hP hD hS
      · have h := iteF hc h
        refine lv_aload_n hx hb dX6_clear_10 rfl (lv_at hl 0 rfl) ?_
        refine va_get hx hb hts inX6 hown hK hP 0 rfl rfl 2 (by decide) (hts _ qw93) (fun _ h9 => h9) rfl dX6_clear_11 ?_
        refine lv_aload_n hx hb dX6_clear_14 rfl (lv_at hl 0 rfl) ?_
        refine lv_iload_n hx hb dX6_clear_15 rfl (lv_at hl 1 rfl) ?_
        obtain ⟨r8, er8, h⟩ := obind h
        refine call_R (va_runV (As := [.int y1_2]) (rest := [.ref (r 2)]) ⟨hx, hb, hml, hown, hts⟩ (c_X6_windowAt l z0 D t r (re_way' μ way_2) y1_2 _ er8) (kV hts qw267 qw268 qw269 qw7 qw270 ok_X6_windowAt ⟨Nat.le_of_ble_eq_true rfl, Nat.le_of_ble_eq_true rfl⟩) ⟨PR.blind, va_recv hK hP (ci := 6) (q0 := 0) rfl rfl, fun U hU hW => ⟨rfl, by rw [hU]; exact (hC.at hS hZ).warm hW, by rw [hU]; exact hP⟩⟩ rfl rfl hl.1 rfl (lv_room (Nat.le_of_ble_eq_true rfl)) dX6_clear_16 ⟨Nat.le_of_ble_eq_true rfl, Nat.le_of_ble_eq_true rfl⟩) ?_
        refine lv_iconst (v := (0)) hx hb dX6_clear_19 (by decide) ?_
        obtain ⟨f9, ef9, h⟩ := obind h
        refine k_iast (ws' := (REW r t (re_way' μ f9))) hx hb hK hP hD hS 2 rfl ef9 rfl dX6_clear_20 (fun H locs hP hD hS => ?_)
        have hSz : s.heap.size ≤ H.size := hS.1
        obtain ⟨x10, ex10, h⟩ := jlet_some h
        refine lv_iinc (v := x10) (lv' := [(1, .int x10), (0, .ref (r 0))]) hx hb dX6_clear_21 hl (k := 1) rfl (by rw [ex10]; rfl) (by decide) rfl (fun ls hl => ?_)
        refine lv_goto (tgt := 2) hx hb dX6_clear_24 (by decide) ?_
        exact ih _ _ _ h hK2 ls H locs (lv_sub hl [1, 0] rfl) hP hD hS
  refine hL2 _ _ _ _ eo7 (fun ls H locs hl hP hD hS => ?_) ls H locs (lv_sub hl [1, 0] rfl) hP hD hS
  have hSz : s.heap.size ≤ H.size := hS.1
  refine lv_aload_n hx hb dX6_clear_27 rfl (lv_at hl 0 rfl) ?_
  refine lv_iconst (v := (0)) hx hb dX6_clear_28 (by decide) ?_
  refine va_put (D := D) (ci := 6) (v := .int (0 : Int32)) (ty := .int) hx hb hts inX6 tyX6 tyX6_ok nmX6 hown hK hP hD hS 0 rfl rfl 0 (by decide) (hts _ qw90) (fun _ h9 => h9) rfl (by decide +kernel) rfl rfl (Nat.le_of_ble_eq_true rfl) dX6_clear_29 (fun H locs hP hD hS => ?_)
  have hP : va_P D vwCl (REW r t (re_way' (re_size' μ (0 : Int32)) o7)) H := hP
  have hD : va_D (OA (REL r) s.heap.size) (REW r t (re_way' (re_size' μ (0 : Int32)) o7)) := hD
  have hSz : s.heap.size ≤ H.size := hS.1
  obtain rfl := Option.some.inj h
  exact W.vret hx hb hr (fun t ht hW => ⟨rfl, by rw [ht]; exact hP, hD, hS.F ht⟩) hS.2.2 dX6_clear_32

abbrev rm_X6_add : Room := { frames := 0, cells := 0, slots := 0, locals := 0 }
theorem ok_X6_add : okY yX6_add 2 := ⟨by decide +kernel, by decide +kernel, by decide +kernel⟩
set_option maxHeartbeats 4000000 in
set_option maxRecDepth 100000 in
theorem c_X6_add (l : Launch) (z0 : Nat) (D : va_G) (t : Nat → ClassId) (r : Nat → Nat) (μ : RES) (a1 : Int32) (a2 : Int32) (res : (Int32) × (Nat → Int32) × (Nat → Int32)) (sz : Nat) (h : f_X6_add μ a1 a2 = some res) : Met l yX6_add (ws_ yX6_add cX6_add 3 none) rm_X6_add (PM z0 D t [.ref (r 0), .int a1, .int a2] (REW r t μ) (REL r) sz) (QM none D (REW r t (re_way' (re_win' (re_size' μ res.1) res.2.1) res.2.2)) (REL r) sz) 0 0 (OA (REL r) sz) := by
  refine Met.ofW (cc := cX6_add) (maxL := 3) (ret := none) (by decide) rfl ?_
  intro p e s m args below meth c s₁ Bo hml hv
  obtain ⟨rfl, hC, hsz, hP, hD, hZ⟩ := hv
  have hx := Bo.exec
  have hb := Bo.bytes
  have hr := Bo.returns
  have hts : ∀ w ∈ LA, w.before _ s = true := fun w hw => atoms_spec (ws := ws_ yX6_add cX6_add 3 none) Bo.pre w (List.mem_cons_of_mem _ hw)
  have hown : s.vm.findClass RX6 = some m.cls := findClass_of_methodNamed Bo.named
  have hlocks := Bo.notSynchronized
  have hK := hC.1
  subst hsz
  have hl := lv_entry ([.ref (r 0), .int a1, .int a2]) (n := 3) (Nat.le_of_ble_eq_true rfl)
  rw [lg_entry_eq]
  generalize (lg_sl ([.ref (r 0), .int a1, .int a2]) ++ List.replicate (3 - (lg_sl ([.ref (r 0), .int a1, .int a2])).length) Slot.unset).toArray = ls at hl ⊢
  have hl : lv_has ls 3 [(0, .ref (r 0)), (1, .int a1), (2, .int a2)] := hl
  suffices K9 : ∀ (H : Heap) (locs : List Loc), va_P D vwCl (REW r t μ) H → va_S (OA (REL r) s.heap.size) s.heap H locs → W p l e (headSpec (ws_ yX6_add cX6_add 3 none) rm_X6_add).room s m ([.ref (r 0), .int a1, .int a2] : List Value).toArray below meth c H locs 0 0 (MQ below (QM none D (REW r t (re_way' (re_win' (re_size' μ res.1) res.2.1) res.2.2)) (REL r) s.heap.size) ([.ref (r 0), .int a1, .int a2] : List Value).toArray s 0 0 (OA (REL r) s.heap.size)) (F0 m 0 ls []) from K9 s.heap [] hP va_S.rf
  intro H locs hP hS
  have hSz : s.heap.size ≤ H.size := hS.1
  unfold f_X6_add at h
  refine lv_iload_n hx hb dX6_add_0 rfl (lv_at hl 1 rfl) ?_
  refine lv_if_lt (tgt := 13) hx hb dX6_add_1 (by decide) (fun hc => ?_) (fun hc => ?_)
  · have h := iteT hc h
    obtain rfl := Option.some.inj h
    exact W.vret hx hb hr (fun t ht hW => ⟨rfl, by rw [ht]; exact hP, hD, hS.F ht⟩) hS.2.2 dX6_add_13
  · have h := iteF hc h
    refine lv_iload_n hx hb dX6_add_4 rfl (lv_at hl 1 rfl) ?_
    refine lv_aload_n hx hb dX6_add_5 rfl (lv_at hl 0 rfl) ?_
    refine va_get hx hb hts inX6 hown hK hP 0 rfl rfl 2 (by decide) (hts _ qw93) (fun _ h9 => h9) rfl dX6_add_6 ?_
    refine va_alen hx hb hK hP 2 0 rfl rfl (v := 512) rfl dX6_add_9 ?_
    refine lv_icmp_lt (tgt := 14) hx hb dX6_add_10 (by decide) (fun hc => ?_) (fun hc => ?_)
    · have h := iteT hc h
      refine lv_aload_n hx hb dX6_add_14 rfl (lv_at hl 0 rfl) ?_
      refine va_get hx hb hts inX6 hown hK hP 0 rfl rfl 2 (by decide) (hts _ qw93) (fun _ h9 => h9) rfl dX6_add_15 ?_
      refine lv_iload_n hx hb dX6_add_18 rfl (lv_at hl 1 rfl) ?_
      obtain ⟨v1, ev1, h⟩ := obind h
      refine k_iald hx hb hK hP 2 rfl ev1 dX6_add_19 ?_
      obtain ⟨o4, eo4, h⟩ := obind h
      have hJ55_o4 : ∀ (ls : Array Slot) (H : Heap) (locs : List Loc), lv_has ls 3 [(0, .ref (r 0)), (1, .int a1), (2, .int a2)] → va_P D vwCl (REW r t (re_win' (re_size' μ o4.1) o4.2)) H → va_D (OA (REL r) s.heap.size) (REW r t (re_win' (re_size' μ o4.1) o4.2)) → va_S (OA (REL r) s.heap.size) s.heap H locs → W p l e (headSpec (ws_ yX6_add cX6_add 3 none) rm_X6_add).room s m ([.ref (r 0), .int a1, .int a2] : List Value).toArray below meth c H locs 0 0 (MQ below (QM none D (REW r t (re_way' (re_win' (re_size' μ res.1) res.2.1) res.2.2)) (REL r) s.heap.size) ([.ref (r 0), .int a1, .int a2] : List Value).toArray s 0 0 (OA (REL r) s.heap.size)) (F0 m 55 ls []) := by
        intro ls H locs hl hP hD hS
        have hSz : s.heap.size ≤ H.size := hS.1
        refine lv_aload_n hx hb dX6_add_55 rfl (lv_at hl 0 rfl) ?_
        refine va_get hx hb hts inX6 hown hK hP 0 rfl rfl 2 (by decide) (hts _ qw93) (fun _ h9 => h9) rfl dX6_add_56 ?_
        refine lv_iload_n hx hb dX6_add_59 rfl (lv_at hl 1 rfl) ?_
        refine lv_dup2_11 hx hb dX6_add_60 rfl rfl ?_
        obtain ⟨v7, ev7, h⟩ := obind h
        refine k_iald hx hb hK hP 2 rfl ev7 dX6_add_61 ?_
        refine lv_iload_n hx hb dX6_add_62 rfl (lv_at hl 2 rfl) ?_
        refine lv_iadd hx hb dX6_add_63 ?_
        obtain ⟨f8, ef8, h⟩ := obind h
        refine k_iast (ws' := (REW r t (re_way' (re_win' (re_size' μ o4.1) o4.2) f8))) hx hb hK hP hD hS 2 rfl ef8 rfl dX6_add_64 (fun H locs hP hD hS => ?_)
        have hSz : s.heap.size ≤ H.size := hS.1
        obtain rfl := Option.some.inj h
        exact W.vret hx hb hr (fun t ht hW => ⟨rfl, by rw [ht]; exact hP, hD, hS.F ht⟩) hS.2.2 dX6_add_65
      have h := eo4
      clear eo4
      refine lv_if_ne (tgt := 55) hx hb dX6_add_20 (by decide) (fun hc => ?_) (fun hc => ?_)
      · have h := iteF hc h
        obtain rfl := Option.some.inj h
        exact hJ55_o4 ls H locs (lv_sub hl [0, 1, 2] rfl) hP hD hS
      · have h := iteT hc h
        refine lv_aload_n hx hb dX6_add_23 rfl (lv_at hl 0 rfl) ?_
        refine va_get hx hb hts inX6 hown hK hP 0 rfl rfl 0 (by decide) (hts _ qw90) (fun _ h9 => h9) rfl dX6_add_24 ?_
        refine lv_aload_n hx hb dX6_add_27 rfl (lv_at hl 0 rfl) ?_
        refine va_get hx hb hts inX6 hown hK hP 0 rfl rfl 1 (by decide) (hts _ qw92) (fun _ h9 => h9) rfl dX6_add_28 ?_
        refine va_alen hx hb hK hP 1 0 rfl rfl (v := 512) rfl dX6_add_31 ?_
        refine lv_icmp_ge (tgt := 55) hx hb dX6_add_32 (by decide) (fun hc => ?_) (fun hc => ?_)
        · have h := iteT hc h
          obtain rfl := Option.some.inj h
          exact hJ55_o4 ls H locs (lv_sub hl [0, 1, 2] rfl) hP hD hS
        · have h := iteF hc h
          refine lv_aload_n hx hb dX6_add_35 rfl (lv_at hl 0 rfl) ?_
          refine va_get hx hb hts inX6 hown hK hP 0 rfl rfl 1 (by decide) (hts _ qw92) (fun _ h9 => h9) rfl dX6_add_36 ?_
          refine lv_aload_n hx hb dX6_add_39 rfl (lv_at hl 0 rfl) ?_
          refine va_get hx hb hts inX6 hown hK hP 0 rfl rfl 0 (by decide) (hts _ qw90) (fun _ h9 => h9) rfl dX6_add_40 ?_
          refine lv_iload_n hx hb dX6_add_43 rfl (lv_at hl 1 rfl) ?_
          obtain ⟨f5, ef5, h⟩ := obind h
          refine k_iast (ws' := (REW r t (re_win' μ f5))) hx hb hK hP hD hS 1 rfl ef5 rfl dX6_add_44 (fun H locs hP hD hS => ?_)
          have hSz : s.heap.size ≤ H.size := hS.1
          refine lv_aload_n hx hb dX6_add_45 rfl (lv_at hl 0 rfl) ?_
          refine lv_dup hx hb dX6_add_46 rfl ?_
          refine va_get hx hb hts inX6 hown hK hP 0 rfl rfl 0 (by decide) (hts _ qw90) (fun _ h9 => h9) rfl dX6_add_47 ?_
          refine lv_iconst (v := (1)) hx hb dX6_add_50 (by decide) ?_
          refine lv_iadd hx hb dX6_add_51 ?_
          obtain ⟨x6, ex6, h⟩ := jlet_some h
          refine topI ex6 ?_
          refine va_put (D := D) (ci := 6) (v := .int x6) (ty := .int) hx hb hts inX6 tyX6 tyX6_ok nmX6 hown hK hP hD hS 0 rfl rfl 0 (by decide) (hts _ qw90) (fun _ h9 => h9) rfl (by decide +kernel) rfl rfl (Nat.le_of_ble_eq_true rfl) dX6_add_52 (fun H locs hP hD hS => ?_)
          have hP : va_P D vwCl (REW r t (re_win' (re_size' μ x6) f5)) H := hP
          have hD : va_D (OA (REL r) s.heap.size) (REW r t (re_win' (re_size' μ x6) f5)) := hD
          have hSz : s.heap.size ≤ H.size := hS.1
          obtain rfl := Option.some.inj h
          exact hJ55_o4 ls H locs (lv_sub hl [0, 1, 2] rfl) hP hD hS
    · have h := iteF hc h
      obtain rfl := Option.some.inj h
      exact W.vret hx hb hr (fun t ht hW => ⟨rfl, by rw [ht]; exact hP, hD, hS.F ht⟩) hS.2.2 dX6_add_13

abbrev rm_X2_begin : Room := { frames := 2, cells := 0, slots := 0, locals := 42 }
theorem ok_X2_begin : okY yX2_begin 0 := ⟨by decide +kernel, by decide +kernel, by decide +kernel⟩
set_option maxHeartbeats 4000000 in
set_option maxRecDepth 100000 in
theorem c_X2_begin (l : Launch) (z0 : Nat) (D : va_G) (t : Nat → ClassId) (A : Nat → Nat) (B : Nat → Nat) (μ : VS) (res : (Int32) × (Nat → Int32) × (Nat → Int32)) (sz : Nat) (h : f_X2_begin μ = some res) : Met l yX2_begin (ws_ yX2_begin cX2_begin 1 none) rm_X2_begin (PM z0 D t [.ref (A 0)] (VW A B t μ) (VL A B μ) sz) (QM none D (VW A B t (v_hway' (v_hwin' (v_hsz' μ res.1) res.2.1) res.2.2)) (VL A B μ) sz) 0 0 (OA (VL A B μ) sz) := by
  refine Met.ofW (cc := cX2_begin) (maxL := 1) (ret := none) (by decide) rfl ?_
  intro p e s m args below meth c s₁ Bo hml hv
  obtain ⟨rfl, hC, hsz, hP, hD, hZ⟩ := hv
  have hx := Bo.exec
  have hb := Bo.bytes
  have hr := Bo.returns
  have hts : ∀ w ∈ LA, w.before _ s = true := fun w hw => atoms_spec (ws := ws_ yX2_begin cX2_begin 1 none) Bo.pre w (List.mem_cons_of_mem _ hw)
  have hown : s.vm.findClass RX2 = some m.cls := findClass_of_methodNamed Bo.named
  have hlocks := Bo.notSynchronized
  have hK := hC.1
  subst hsz
  have hl := lv_entry ([.ref (A 0)]) (n := 1) (Nat.le_of_ble_eq_true rfl)
  rw [lg_entry_eq]
  generalize (lg_sl ([.ref (A 0)]) ++ List.replicate (1 - (lg_sl ([.ref (A 0)])).length) Slot.unset).toArray = ls at hl ⊢
  have hl : lv_has ls 1 [(0, .ref (A 0))] := hl
  suffices K9 : ∀ (H : Heap) (locs : List Loc), va_P D vwCl (VW A B t μ) H → va_S (OA (VL A B μ) s.heap.size) s.heap H locs → W p l e (headSpec (ws_ yX2_begin cX2_begin 1 none) rm_X2_begin).room s m ([.ref (A 0)] : List Value).toArray below meth c H locs 0 0 (MQ below (QM none D (VW A B t (v_hway' (v_hwin' (v_hsz' μ res.1) res.2.1) res.2.2)) (VL A B μ) s.heap.size) ([.ref (A 0)] : List Value).toArray s 0 0 (OA (VL A B μ) s.heap.size)) (F0 m 0 ls []) from K9 s.heap [] hP va_S.rf
  intro H locs hP hS
  have hSz : s.heap.size ≤ H.size := hS.1
  unfold f_X2_begin at h
  refine lv_aload_n hx hb dX2_begin_0 rfl (lv_at hl 0 rfl) ?_
  refine va_get hx hb hts inX2 hown hK hP 0 rfl rfl 2 (by decide) (hts _ qw103) (fun _ h9 => h9) rfl dX2_begin_1 ?_
  obtain ⟨r1, er1, h⟩ := obind h
  refine call_M (va_runV (As := []) (rest := []) ⟨hx, hb, hml, hown, hts⟩ (c_X6_clear l z0 D t (v_u1 μ) ((v_hsz μ), (v_hwin μ), (v_hway μ)) _ H.size er1) (kV hts qw263 qw264 qw265 qw7 qw266 ok_X6_clear ⟨Nat.le_of_ble_eq_true rfl, Nat.le_of_ble_eq_true rfl⟩) ⟨PM.blind, va_recv hK (sub_V_RE_h (μ := μ) hP) (ci := 6) (q0 := 0) rfl rfl, fun U hU hW => ⟨rfl, by rw [hU]; exact (hC.at hS hZ).warm hW, by rw [hU], by rw [hU]; exact (sub_V_RE_h (μ := μ) hP), ⟨(subD_V_RE_h (μ := μ) hD).1, fun _ _ h9 => Or.inl (in_map (L := (REL (v_u1 μ))) rfl h9)⟩, fun q hq => hZ q (OA.ofD (subD_V_RE_h (μ := μ) hD) rfl hSz q hq)⟩⟩ rfl rfl hl.1 rfl (lv_room (Nat.le_of_ble_eq_true rfl)) dX2_begin_4 ⟨Nat.le_of_ble_eq_true rfl, Nat.le_of_ble_eq_true rfl⟩) hS (OA.ofD (subD_V_RE_h (μ := μ) hD) rfl hSz) (fun H locs hP1 hD1 hS _ hk1 => ?_)
  obtain ⟨hP, hD⟩ := back_V_RE_h (μ := μ) hP hD hk1 hP1
  have hP : va_P D vwCl (VW A B t (v_hway' (v_hsz' μ r1.1) r1.2)) H := hP
  have hD : va_D (OA (VL A B μ) s.heap.size) (VW A B t (v_hway' (v_hsz' μ r1.1) r1.2)) := hD
  have hSz : s.heap.size ≤ H.size := hS.1
  refine lv_aload_n hx hb dX2_begin_7 rfl (lv_at hl 0 rfl) ?_
  refine va_get hx hb hts inX2 hown hK hP 0 rfl rfl 2 (by decide) (hts _ qw103) (fun _ h9 => h9) rfl dX2_begin_8 ?_
  refine lv_iconst (v := (0)) hx hb dX2_begin_11 (by decide) ?_
  refine lv_iconst (v := (1)) hx hb dX2_begin_12 (by decide) ?_
  obtain ⟨r2, er2, h⟩ := obind h
  refine call_M (va_runV (As := [.int (0 : Int32), .int (1 : Int32)]) (rest := []) ⟨hx, hb, hml, hown, hts⟩ (c_X6_add l z0 D t (v_u1 μ) (r1.1, (v_hwin μ), r1.2) (0 : Int32) (1 : Int32) _ H.size er2) (kV hts qw271 qw272 qw273 qw7 qw274 ok_X6_add ⟨Nat.le_of_ble_eq_true rfl, Nat.le_of_ble_eq_true rfl⟩) ⟨PM.blind, va_recv hK (sub_V_RE_h (μ := v_hway' (v_hsz' μ r1.1) r1.2) hP) (ci := 6) (q0 := 0) rfl rfl, fun U hU hW => ⟨rfl, by rw [hU]; exact (hC.at hS hZ).warm hW, by rw [hU], by rw [hU]; exact (sub_V_RE_h (μ := v_hway' (v_hsz' μ r1.1) r1.2) hP), ⟨(subD_V_RE_h (μ := v_hway' (v_hsz' μ r1.1) r1.2) hD).1, fun _ _ h9 => Or.inl (in_map (L := (REL (v_u1 μ))) rfl h9)⟩, fun q hq => hZ q (OA.ofD (subD_V_RE_h (μ := v_hway' (v_hsz' μ r1.1) r1.2) hD) rfl hSz q hq)⟩⟩ rfl rfl hl.1 rfl (lv_room (Nat.le_of_ble_eq_true rfl)) dX2_begin_13 ⟨Nat.le_of_ble_eq_true rfl, Nat.le_of_ble_eq_true rfl⟩) hS (OA.ofD (subD_V_RE_h (μ := v_hway' (v_hsz' μ r1.1) r1.2) hD) rfl hSz) (fun H locs hP1 hD1 hS _ hk1 => ?_)
  obtain ⟨hP, hD⟩ := back_V_RE_h (μ := v_hway' (v_hsz' μ r1.1) r1.2) hP hD hk1 hP1
  have hP : va_P D vwCl (VW A B t (v_hway' (v_hwin' (v_hsz' μ r2.1) r2.2.1) r2.2.2)) H := hP
  have hD : va_D (OA (VL A B μ) s.heap.size) (VW A B t (v_hway' (v_hwin' (v_hsz' μ r2.1) r2.2.1) r2.2.2)) := hD
  have hSz : s.heap.size ≤ H.size := hS.1
  obtain rfl := Option.some.inj h
  exact W.vret hx hb hr (fun t ht hW => ⟨rfl, by rw [ht]; exact hP, hD, hS.F ht⟩) hS.2.2 dX2_begin_16

abbrev rm_J6_numberOfLeadingZeros_0f7a4 : Room := { frames := 0, cells := 0, slots := 0, locals := 0 }
theorem ok_J6_numberOfLeadingZeros_0f7a4 : okY yJ6_numberOfLeadingZeros_0f7a4 1 := ⟨by decide +kernel, by decide +kernel, by decide +kernel⟩
set_option maxHeartbeats 4000000 in
set_option maxRecDepth 100000 in
theorem c_J6_numberOfLeadingZeros_0f7a4 (l : Launch) (z0 : Nat) (D : va_G) (t : Nat → ClassId) (a1 : Int32) (res : Int32) (h : f_J6_numberOfLeadingZeros_0f7a4 a1 = some res) : Met l yJ6_numberOfLeadingZeros_0f7a4 (ws_ yJ6_numberOfLeadingZeros_0f7a4 cJ6_numberOfLeadingZeros_0f7a4 2 (some .int)) rm_J6_numberOfLeadingZeros_0f7a4 (PR z0 D t [.int a1] []) (QR (some (.int res))) 0 0 FN := by
  refine Met.ofW (cc := cJ6_numberOfLeadingZeros_0f7a4) (maxL := 2) (ret := (some .int)) (by decide) rfl ?_
  intro p e s m args below meth c s₁ Bo hml hv
  obtain ⟨rfl, hC, hP⟩ := hv
  have hx := Bo.exec
  have hb := Bo.bytes
  have hr := Bo.returns
  have hts : ∀ w ∈ LA, w.before _ s = true := fun w hw => atoms_spec (ws := ws_ yJ6_numberOfLeadingZeros_0f7a4 cJ6_numberOfLeadingZeros_0f7a4 2 (some .int)) Bo.pre w (List.mem_cons_of_mem _ hw)
  have hown : s.vm.findClass RJ6 = some m.cls := findClass_of_methodNamed Bo.named
  have hlocks := Bo.notSynchronized
  have hK := hC.1
  have hl := lv_entry ([.int a1]) (n := 2) (Nat.le_of_ble_eq_true rfl)
  rw [lg_entry_eq]
  generalize (lg_sl ([.int a1]) ++ List.replicate (2 - (lg_sl ([.int a1])).length) Slot.unset).toArray = ls at hl ⊢
  have hl : lv_has ls 2 [(0, .int a1)] := hl
  unfold f_J6_numberOfLeadingZeros_0f7a4 at h
  refine lv_iload_n hx hb dJ6_numberOfLeadingZeros_0f7a4_0 rfl (lv_at hl 0 rfl) ?_
  refine lv_if_gt (tgt := 15) hx hb dJ6_numberOfLeadingZeros_0f7a4_1 (by decide) (fun hc => ?_) (fun hc => ?_)
  · have h := iteT hc h
    refine lv_bipush (v := (31)) hx hb dJ6_numberOfLeadingZeros_0f7a4_15 (by decide) ?_
    refine lv_istore_n (lv' := [(1, .int (31 : Int32)), (0, .int a1)]) hx hb dJ6_numberOfLeadingZeros_0f7a4_17 rfl hl (by decide) rfl (fun ls hl => ?_)
    refine lv_iload_n hx hb dJ6_numberOfLeadingZeros_0f7a4_18 rfl (lv_at hl 1 rfl) ?_
    refine lv_ldcw (v := (65536)) hx hb hown (hts _ qw284) dJ6_numberOfLeadingZeros_0f7a4_19 ?_
    obtain ⟨o3, eo3, h⟩ := obind h
    have hJ33_o3 : ∀ ls : Array Slot, lv_has ls 2 [(0, .int o3.1), (1, .int o3.2)] → W p l e (headSpec (ws_ yJ6_numberOfLeadingZeros_0f7a4 cJ6_numberOfLeadingZeros_0f7a4 2 (some .int)) rm_J6_numberOfLeadingZeros_0f7a4).room s m ([.int a1] : List Value).toArray below meth c s.heap [] 0 0 (MQ below (QR (some (.int res))) ([.int a1] : List Value).toArray s 0 0 FN) (F0 m 33 ls []) := by
      intro ls hl
      refine lv_iload_n hx hb dJ6_numberOfLeadingZeros_0f7a4_33 rfl (lv_at hl 0 rfl) ?_
      refine lv_sipush (v := (256)) hx hb dJ6_numberOfLeadingZeros_0f7a4_34 (by decide) ?_
      obtain ⟨o8, eo8, h⟩ := obind h
      have hJ48_o8 : ∀ ls : Array Slot, lv_has ls 2 [(0, .int o8.1), (1, .int o8.2)] → W p l e (headSpec (ws_ yJ6_numberOfLeadingZeros_0f7a4 cJ6_numberOfLeadingZeros_0f7a4 2 (some .int)) rm_J6_numberOfLeadingZeros_0f7a4).room s m ([.int a1] : List Value).toArray below meth c s.heap [] 0 0 (MQ below (QR (some (.int res))) ([.int a1] : List Value).toArray s 0 0 FN) (F0 m 48 ls []) := by
        intro ls hl
        refine lv_iload_n hx hb dJ6_numberOfLeadingZeros_0f7a4_48 rfl (lv_at hl 0 rfl) ?_
        refine lv_bipush (v := (16)) hx hb dJ6_numberOfLeadingZeros_0f7a4_49 (by decide) ?_
        obtain ⟨o13, eo13, h⟩ := obind h
        have hJ61_o13 : ∀ ls : Array Slot, lv_has ls 2 [(0, .int o13.1), (1, .int o13.2)] → W p l e (headSpec (ws_ yJ6_numberOfLeadingZeros_0f7a4 cJ6_numberOfLeadingZeros_0f7a4 2 (some .int)) rm_J6_numberOfLeadingZeros_0f7a4).room s m ([.int a1] : List Value).toArray below meth c s.heap [] 0 0 (MQ below (QR (some (.int res))) ([.int a1] : List Value).toArray s 0 0 FN) (F0 m 61 ls []) := by
          intro ls hl
          refine lv_iload_n hx hb dJ6_numberOfLeadingZeros_0f7a4_61 rfl (lv_at hl 0 rfl) ?_
          refine lv_iconst (v := (4)) hx hb dJ6_numberOfLeadingZeros_0f7a4_62 (by decide) ?_
          obtain ⟨o18, eo18, h⟩ := obind h
          have hJ73_o18 : ∀ ls : Array Slot, lv_has ls 2 [(0, .int o18.1), (1, .int o18.2)] → W p l e (headSpec (ws_ yJ6_numberOfLeadingZeros_0f7a4 cJ6_numberOfLeadingZeros_0f7a4 2 (some .int)) rm_J6_numberOfLeadingZeros_0f7a4).room s m ([.int a1] : List Value).toArray below meth c s.heap [] 0 0 (MQ below (QR (some (.int res))) ([.int a1] : List Value).toArray s 0 0 FN) (F0 m 73 ls []) := by
            intro ls hl
            refine lv_iload_n hx hb dJ6_numberOfLeadingZeros_0f7a4_73 rfl (lv_at hl 1 rfl) ?_
            refine lv_iload_n hx hb dJ6_numberOfLeadingZeros_0f7a4_74 rfl (lv_at hl 0 rfl) ?_
            refine lv_iconst (v := (1)) hx hb dJ6_numberOfLeadingZeros_0f7a4_75 (by decide) ?_
            refine lv_iushr hx hb dJ6_numberOfLeadingZeros_0f7a4_76 rfl ?_
            refine lv_isub hx hb dJ6_numberOfLeadingZeros_0f7a4_77 ?_
            obtain rfl := Option.some.inj h
            exact W.iret hx hb hr (fun t ht hW => ⟨rfl, ht⟩) (fun q hq => absurd hq List.not_mem_nil) dJ6_numberOfLeadingZeros_0f7a4_78
          have h := eo18
          clear eo18
          refine lv_icmp_lt (tgt := 73) hx hb dJ6_numberOfLeadingZeros_0f7a4_63 (by decide) (fun hc => ?_) (fun hc => ?_)
          · have h := iteT hc h
            obtain rfl := Option.some.inj h
            exact hJ73_o18 ls (lv_sub hl [0, 1] rfl)
          · have h := iteF hc h
            obtain ⟨x19, ex19, h⟩ := jlet_some h
            refine lv_iinc (v := x19) (lv' := [(1, .int x19), (0, .int o13.1)]) hx hb dJ6_numberOfLeadingZeros_0f7a4_66 hl (k := 1) rfl (by rw [ex19]; rfl) (by decide) rfl (fun ls hl => ?_)
            refine lv_iload_n hx hb dJ6_numberOfLeadingZeros_0f7a4_69 rfl (lv_at hl 1 rfl) ?_
            refine lv_iconst (v := (2)) hx hb dJ6_numberOfLeadingZeros_0f7a4_70 (by decide) ?_
            refine lv_iushr hx hb dJ6_numberOfLeadingZeros_0f7a4_71 rfl ?_
            obtain ⟨x20, ex20, h⟩ := jlet_some h
            refine topI ex20 ?_
            refine lv_istore_n (lv' := [(0, .int x20), (1, .int x19)]) hx hb dJ6_numberOfLeadingZeros_0f7a4_72 rfl hl (by decide) rfl (fun ls hl => ?_)
            obtain rfl := Option.some.inj h
            exact hJ73_o18 ls (lv_sub hl [0, 1] rfl)
        have h := eo13
        clear eo13
        refine lv_icmp_lt (tgt := 61) hx hb dJ6_numberOfLeadingZeros_0f7a4_51 (by decide) (fun hc => ?_) (fun hc => ?_)
        · have h := iteT hc h
          obtain rfl := Option.some.inj h
          exact hJ61_o13 ls (lv_sub hl [0, 1] rfl)
        · have h := iteF hc h
          obtain ⟨x14, ex14, h⟩ := jlet_some h
          refine lv_iinc (v := x14) (lv' := [(1, .int x14), (0, .int o8.1)]) hx hb dJ6_numberOfLeadingZeros_0f7a4_54 hl (k := 1) rfl (by rw [ex14]; rfl) (by decide) rfl (fun ls hl => ?_)
          refine lv_iload_n hx hb dJ6_numberOfLeadingZeros_0f7a4_57 rfl (lv_at hl 1 rfl) ?_
          refine lv_iconst (v := (4)) hx hb dJ6_numberOfLeadingZeros_0f7a4_58 (by decide) ?_
          refine lv_iushr hx hb dJ6_numberOfLeadingZeros_0f7a4_59 rfl ?_
          obtain ⟨x15, ex15, h⟩ := jlet_some h
          refine topI ex15 ?_
          refine lv_istore_n (lv' := [(0, .int x15), (1, .int x14)]) hx hb dJ6_numberOfLeadingZeros_0f7a4_60 rfl hl (by decide) rfl (fun ls hl => ?_)
          obtain rfl := Option.some.inj h
          exact hJ61_o13 ls (lv_sub hl [0, 1] rfl)
      have h := eo8
      clear eo8
      refine lv_icmp_lt (tgt := 48) hx hb dJ6_numberOfLeadingZeros_0f7a4_37 (by decide) (fun hc => ?_) (fun hc => ?_)
      · have h := iteT hc h
        obtain rfl := Option.some.inj h
        exact hJ48_o8 ls (lv_sub hl [0, 1] rfl)
      · have h := iteF hc h
        obtain ⟨x9, ex9, h⟩ := jlet_some h
        refine lv_iinc (v := x9) (lv' := [(1, .int x9), (0, .int o3.1)]) hx hb dJ6_numberOfLeadingZeros_0f7a4_40 hl (k := 1) rfl (by rw [ex9]; rfl) (by decide) rfl (fun ls hl => ?_)
        refine lv_iload_n hx hb dJ6_numberOfLeadingZeros_0f7a4_43 rfl (lv_at hl 1 rfl) ?_
        refine lv_bipush (v := (8)) hx hb dJ6_numberOfLeadingZeros_0f7a4_44 (by decide) ?_
        refine lv_iushr hx hb dJ6_numberOfLeadingZeros_0f7a4_46 rfl ?_
        obtain ⟨x10, ex10, h⟩ := jlet_some h
        refine topI ex10 ?_
        refine lv_istore_n (lv' := [(0, .int x10), (1, .int x9)]) hx hb dJ6_numberOfLeadingZeros_0f7a4_47 rfl hl (by decide) rfl (fun ls hl => ?_)
        obtain rfl := Option.some.inj h
        exact hJ48_o8 ls (lv_sub hl [0, 1] rfl)
    have h := eo3
    clear eo3
    refine lv_icmp_lt (tgt := 33) hx hb dJ6_numberOfLeadingZeros_0f7a4_22 (by decide) (fun hc => ?_) (fun hc => ?_)
    · have h := iteT hc h
      obtain rfl := Option.some.inj h
      exact hJ33_o3 ls (lv_sub hl [1, 0] rfl)
    · have h := iteF hc h
      obtain ⟨x4, ex4, h⟩ := jlet_some h
      refine lv_iinc (v := x4) (lv' := [(1, .int x4), (0, .int a1)]) hx hb dJ6_numberOfLeadingZeros_0f7a4_25 hl (k := 0) rfl (by rw [ex4]; rfl) (by decide) rfl (fun ls hl => ?_)
      refine lv_iload_n hx hb dJ6_numberOfLeadingZeros_0f7a4_28 rfl (lv_at hl 1 rfl) ?_
      refine lv_bipush (v := (16)) hx hb dJ6_numberOfLeadingZeros_0f7a4_29 (by decide) ?_
      refine lv_iushr hx hb dJ6_numberOfLeadingZeros_0f7a4_31 rfl ?_
      obtain ⟨x5, ex5, h⟩ := jlet_some h
      refine topI ex5 ?_
      refine lv_istore_n (lv' := [(0, .int x5), (1, .int x4)]) hx hb dJ6_numberOfLeadingZeros_0f7a4_32 rfl hl (by decide) rfl (fun ls hl => ?_)
      obtain rfl := Option.some.inj h
      exact hJ33_o3 ls (lv_sub hl [0, 1] rfl)
  · have h := iteF hc h
    refine lv_iload_n hx hb dJ6_numberOfLeadingZeros_0f7a4_4 rfl (lv_at hl 0 rfl) ?_
    refine lv_if_ne (tgt := 13) hx hb dJ6_numberOfLeadingZeros_0f7a4_5 (by decide) (fun hc => ?_) (fun hc => ?_)
    · have h := iteF hc h
      refine lv_iconst (v := (0)) hx hb dJ6_numberOfLeadingZeros_0f7a4_13 (by decide) ?_
      obtain rfl := Option.some.inj h
      exact W.iret hx hb hr (fun t ht hW => ⟨rfl, ht⟩) (fun q hq => absurd hq List.not_mem_nil) dJ6_numberOfLeadingZeros_0f7a4_14
    · have h := iteT hc h
      refine lv_bipush (v := (32)) hx hb dJ6_numberOfLeadingZeros_0f7a4_8 (by decide) ?_
      refine lv_goto (tgt := 14) hx hb dJ6_numberOfLeadingZeros_0f7a4_10 (by decide) ?_
      obtain rfl := Option.some.inj h
      exact W.iret hx hb hr (fun t ht hW => ⟨rfl, ht⟩) (fun q hq => absurd hq List.not_mem_nil) dJ6_numberOfLeadingZeros_0f7a4_14

abbrev rm_J13_numberOfLeadingZeros_95d88 : Room := { frames := 1, cells := 0, slots := 0, locals := 40 }
theorem ok_J13_numberOfLeadingZeros_95d88 : okY yJ13_numberOfLeadingZeros_95d88 1 := ⟨by decide +kernel, by decide +kernel, by decide +kernel⟩
set_option maxHeartbeats 4000000 in
set_option maxRecDepth 100000 in
theorem c_J13_numberOfLeadingZeros_95d88 (l : Launch) (z0 : Nat) (D : va_G) (t : Nat → ClassId) (a1 : Int64) (res : Int32) (h : f_J13_numberOfLeadingZeros_95d88 a1 = some res) : Met l yJ13_numberOfLeadingZeros_95d88 (ws_ yJ13_numberOfLeadingZeros_95d88 cJ13_numberOfLeadingZeros_95d88 3 (some .int)) rm_J13_numberOfLeadingZeros_95d88 (PR z0 D t [.long a1] []) (QR (some (.int res))) 0 0 FN := by
  refine Met.ofW (cc := cJ13_numberOfLeadingZeros_95d88) (maxL := 3) (ret := (some .int)) (by decide) rfl ?_
  intro p e s m args below meth c s₁ Bo hml hv
  obtain ⟨rfl, hC, hP⟩ := hv
  have hx := Bo.exec
  have hb := Bo.bytes
  have hr := Bo.returns
  have hts : ∀ w ∈ LA, w.before _ s = true := fun w hw => atoms_spec (ws := ws_ yJ13_numberOfLeadingZeros_95d88 cJ13_numberOfLeadingZeros_95d88 3 (some .int)) Bo.pre w (List.mem_cons_of_mem _ hw)
  have hown : s.vm.findClass RJ13 = some m.cls := findClass_of_methodNamed Bo.named
  have hlocks := Bo.notSynchronized
  have hK := hC.1
  have hl := lv_entry ([.long a1]) (n := 3) (Nat.le_of_ble_eq_true rfl)
  rw [lg_entry_eq]
  generalize (lg_sl ([.long a1]) ++ List.replicate (3 - (lg_sl ([.long a1])).length) Slot.unset).toArray = ls at hl ⊢
  have hl : lv_has ls 3 [(0, .long a1)] := hl
  unfold f_J13_numberOfLeadingZeros_95d88 at h
  refine lv_lload_n hx hb dJ13_numberOfLeadingZeros_95d88_0 rfl (lv_at hl 0 rfl) ?_
  refine lv_bipush (v := (32)) hx hb dJ13_numberOfLeadingZeros_95d88_1 (by decide) ?_
  refine lv_lushr hx hb dJ13_numberOfLeadingZeros_95d88_3 rfl ?_
  refine lv_l2i hx hb dJ13_numberOfLeadingZeros_95d88_4 rfl ?_
  obtain ⟨x1, ex1, h⟩ := jlet_some h
  refine topI ex1 ?_
  refine lv_istore_n (lv' := [(2, .int x1), (0, .long a1)]) hx hb dJ13_numberOfLeadingZeros_95d88_5 rfl hl (by decide) rfl (fun ls hl => ?_)
  refine lv_iload_n hx hb dJ13_numberOfLeadingZeros_95d88_6 rfl (lv_at hl 0 rfl) ?_
  refine lv_if_ne (tgt := 21) hx hb dJ13_numberOfLeadingZeros_95d88_7 (by decide) (fun hc => ?_) (fun hc => ?_)
  · have h := iteF hc h
    refine lv_iload_n hx hb dJ13_numberOfLeadingZeros_95d88_21 rfl (lv_at hl 0 rfl) ?_
    obtain ⟨r2, er2, h⟩ := obind h
    refine call_R (va_runS (As := [.int x1]) (rest := []) ⟨hx, hb, hml, hown, hts⟩ (c_J6_numberOfLeadingZeros_0f7a4 l z0 D t x1 _ er2) (kS hts qw281 qw282 qw23 qw283 ok_J6_numberOfLeadingZeros_0f7a4 ⟨Nat.le_of_ble_eq_true rfl, Nat.le_of_ble_eq_true rfl⟩) ⟨PR.blind, fun U hU hW => ⟨rfl, by rw [hU]; exact hC.warm hW, by rw [hU]; exact va_P_nil⟩⟩ rfl rfl hl.1 rfl (lv_room (Nat.le_of_ble_eq_true rfl)) dJ13_numberOfLeadingZeros_95d88_22 ⟨Nat.le_of_ble_eq_true rfl, Nat.le_of_ble_eq_true rfl⟩) ?_
    obtain rfl := Option.some.inj h
    exact W.iret hx hb hr (fun t ht hW => ⟨rfl, ht⟩) (fun q hq => absurd hq List.not_mem_nil) dJ13_numberOfLeadingZeros_95d88_25
  · have h := iteT hc h
    refine lv_bipush (v := (32)) hx hb dJ13_numberOfLeadingZeros_95d88_10 (by decide) ?_
    refine lv_lload_n hx hb dJ13_numberOfLeadingZeros_95d88_12 rfl (lv_at hl 1 rfl) ?_
    refine lv_l2i hx hb dJ13_numberOfLeadingZeros_95d88_13 rfl ?_
    obtain ⟨r3, er3, h⟩ := obind h
    refine call_R (va_runS (As := [.int a1.toInt32]) (rest := [.int (32 : Int32)]) ⟨hx, hb, hml, hown, hts⟩ (c_J6_numberOfLeadingZeros_0f7a4 l z0 D t a1.toInt32 _ er3) (kS hts qw281 qw282 qw23 qw283 ok_J6_numberOfLeadingZeros_0f7a4 ⟨Nat.le_of_ble_eq_true rfl, Nat.le_of_ble_eq_true rfl⟩) ⟨PR.blind, fun U hU hW => ⟨rfl, by rw [hU]; exact hC.warm hW, by rw [hU]; exact va_P_nil⟩⟩ rfl rfl hl.1 rfl (lv_room (Nat.le_of_ble_eq_true rfl)) dJ13_numberOfLeadingZeros_95d88_14 ⟨Nat.le_of_ble_eq_true rfl, Nat.le_of_ble_eq_true rfl⟩) ?_
    refine lv_iadd hx hb dJ13_numberOfLeadingZeros_95d88_17 ?_
    refine lv_goto (tgt := 25) hx hb dJ13_numberOfLeadingZeros_95d88_18 (by decide) ?_
    obtain rfl := Option.some.inj h
    exact W.iret hx hb hr (fun t ht hW => ⟨rfl, ht⟩) (fun q hq => absurd hq List.not_mem_nil) dJ13_numberOfLeadingZeros_95d88_25

abbrev rm_X2_endOf : Room := { frames := 2, cells := 0, slots := 0, locals := 62 }
theorem ok_X2_endOf : okY yX2_endOf 1 := ⟨by decide +kernel, by decide +kernel, by decide +kernel⟩
set_option maxHeartbeats 4000000 in
set_option maxRecDepth 100000 in
theorem c_X2_endOf (l : Launch) (z0 : Nat) (D : va_G) (t : Nat → ClassId) (a1 : Int64) (res : Int32) (h : f_X2_endOf a1 = some res) : Met l yX2_endOf (ws_ yX2_endOf cX2_endOf 2 (some .int)) rm_X2_endOf (PR z0 D t [.long a1] []) (QR (some (.int res))) 0 0 FN := by
  refine Met.ofW (cc := cX2_endOf) (maxL := 2) (ret := (some .int)) (by decide) rfl ?_
  intro p e s m args below meth c s₁ Bo hml hv
  obtain ⟨rfl, hC, hP⟩ := hv
  have hx := Bo.exec
  have hb := Bo.bytes
  have hr := Bo.returns
  have hts : ∀ w ∈ LA, w.before _ s = true := fun w hw => atoms_spec (ws := ws_ yX2_endOf cX2_endOf 2 (some .int)) Bo.pre w (List.mem_cons_of_mem _ hw)
  have hown : s.vm.findClass RX2 = some m.cls := findClass_of_methodNamed Bo.named
  have hlocks := Bo.notSynchronized
  have hK := hC.1
  have hl := lv_entry ([.long a1]) (n := 2) (Nat.le_of_ble_eq_true rfl)
  rw [lg_entry_eq]
  generalize (lg_sl ([.long a1]) ++ List.replicate (2 - (lg_sl ([.long a1])).length) Slot.unset).toArray = ls at hl ⊢
  have hl : lv_has ls 2 [(0, .long a1)] := hl
  unfold f_X2_endOf at h
  refine lv_bipush (v := (64)) hx hb dX2_endOf_0 (by decide) ?_
  refine lv_lload_n hx hb dX2_endOf_2 rfl (lv_at hl 0 rfl) ?_
  obtain ⟨r1, er1, h⟩ := obind h
  refine call_R (va_runS (As := [.long a1]) (rest := [.int (64 : Int32)]) ⟨hx, hb, hml, hown, hts⟩ (c_J13_numberOfLeadingZeros_95d88 l z0 D t a1 _ er1) (kS hts qw278 qw279 qw22 qw280 ok_J13_numberOfLeadingZeros_95d88 ⟨Nat.le_of_ble_eq_true rfl, Nat.le_of_ble_eq_true rfl⟩) ⟨PR.blind, fun U hU hW => ⟨rfl, by rw [hU]; exact hC.warm hW, by rw [hU]; exact va_P_nil⟩⟩ rfl rfl hl.1 rfl (lv_room (Nat.le_of_ble_eq_true rfl)) dX2_endOf_3 ⟨Nat.le_of_ble_eq_true rfl, Nat.le_of_ble_eq_true rfl⟩) ?_
  refine lv_isub hx hb dX2_endOf_6 ?_
  obtain rfl := Option.some.inj h
  exact W.iret hx hb hr (fun t ht hW => ⟨rfl, ht⟩) (fun q hq => absurd hq List.not_mem_nil) dX2_endOf_7

abbrev rm_J6_numberOfTrailingZeros_0f7a4 : Room := { frames := 0, cells := 0, slots := 0, locals := 0 }
theorem ok_J6_numberOfTrailingZeros_0f7a4 : okY yJ6_numberOfTrailingZeros_0f7a4 1 := ⟨by decide +kernel, by decide +kernel, by decide +kernel⟩
set_option maxHeartbeats 4000000 in
set_option maxRecDepth 100000 in
theorem c_J6_numberOfTrailingZeros_0f7a4 (l : Launch) (z0 : Nat) (D : va_G) (t : Nat → ClassId) (a1 : Int32) (res : Int32) (h : f_J6_numberOfTrailingZeros_0f7a4 a1 = some res) : Met l yJ6_numberOfTrailingZeros_0f7a4 (ws_ yJ6_numberOfTrailingZeros_0f7a4 cJ6_numberOfTrailingZeros_0f7a4 2 (some .int)) rm_J6_numberOfTrailingZeros_0f7a4 (PR z0 D t [.int a1] []) (QR (some (.int res))) 0 0 FN := by
  refine Met.ofW (cc := cJ6_numberOfTrailingZeros_0f7a4) (maxL := 2) (ret := (some .int)) (by decide) rfl ?_
  intro p e s m args below meth c s₁ Bo hml hv
  obtain ⟨rfl, hC, hP⟩ := hv
  have hx := Bo.exec
  have hb := Bo.bytes
  have hr := Bo.returns
  have hts : ∀ w ∈ LA, w.before _ s = true := fun w hw => atoms_spec (ws := ws_ yJ6_numberOfTrailingZeros_0f7a4 cJ6_numberOfTrailingZeros_0f7a4 2 (some .int)) Bo.pre w (List.mem_cons_of_mem _ hw)
  have hown : s.vm.findClass RJ6 = some m.cls := findClass_of_methodNamed Bo.named
  have hlocks := Bo.notSynchronized
  have hK := hC.1
  have hl := lv_entry ([.int a1]) (n := 2) (Nat.le_of_ble_eq_true rfl)
  rw [lg_entry_eq]
  generalize (lg_sl ([.int a1]) ++ List.replicate (2 - (lg_sl ([.int a1])).length) Slot.unset).toArray = ls at hl ⊢
  have hl : lv_has ls 2 [(0, .int a1)] := hl
  unfold f_J6_numberOfTrailingZeros_0f7a4 at h
  refine lv_iload_n hx hb dJ6_numberOfTrailingZeros_0f7a4_0 rfl (lv_at hl 0 rfl) ?_
  refine lv_iconst (v := (-1)) hx hb dJ6_numberOfTrailingZeros_0f7a4_1 (by decide) ?_
  refine lv_ixor hx hb dJ6_numberOfTrailingZeros_0f7a4_2 ?_
  refine lv_iload_n hx hb dJ6_numberOfTrailingZeros_0f7a4_3 rfl (lv_at hl 0 rfl) ?_
  refine lv_iconst (v := (1)) hx hb dJ6_numberOfTrailingZeros_0f7a4_4 (by decide) ?_
  refine lv_isub hx hb dJ6_numberOfTrailingZeros_0f7a4_5 ?_
  refine lv_iand hx hb dJ6_numberOfTrailingZeros_0f7a4_6 ?_
  obtain ⟨x1, ex1, h⟩ := jlet_some h
  refine topI ex1 ?_
  refine lv_istore_n (lv' := [(0, .int x1)]) hx hb dJ6_numberOfTrailingZeros_0f7a4_7 rfl hl (by decide) rfl (fun ls hl => ?_)
  refine lv_iload_n hx hb dJ6_numberOfTrailingZeros_0f7a4_8 rfl (lv_at hl 0 rfl) ?_
  refine lv_if_gt (tgt := 17) hx hb dJ6_numberOfTrailingZeros_0f7a4_9 (by decide) (fun hc => ?_) (fun hc => ?_)
  · have h := iteT hc h
    refine lv_iconst (v := (1)) hx hb dJ6_numberOfTrailingZeros_0f7a4_17 (by decide) ?_
    refine lv_istore_n (lv' := [(1, .int (1 : Int32)), (0, .int x1)]) hx hb dJ6_numberOfTrailingZeros_0f7a4_18 rfl hl (by decide) rfl (fun ls hl => ?_)
    refine lv_iload_n hx hb dJ6_numberOfTrailingZeros_0f7a4_19 rfl (lv_at hl 1 rfl) ?_
    refine lv_ldcw (v := (65536)) hx hb hown (hts _ qw284) dJ6_numberOfTrailingZeros_0f7a4_20 ?_
    obtain ⟨o4, eo4, h⟩ := obind h
    have hJ34_o4 : ∀ ls : Array Slot, lv_has ls 2 [(0, .int o4.1), (1, .int o4.2)] → W p l e (headSpec (ws_ yJ6_numberOfTrailingZeros_0f7a4 cJ6_numberOfTrailingZeros_0f7a4 2 (some .int)) rm_J6_numberOfTrailingZeros_0f7a4).room s m ([.int a1] : List Value).toArray below meth c s.heap [] 0 0 (MQ below (QR (some (.int res))) ([.int a1] : List Value).toArray s 0 0 FN) (F0 m 34 ls []) := by
      intro ls hl
      refine lv_iload_n hx hb dJ6_numberOfTrailingZeros_0f7a4_34 rfl (lv_at hl 0 rfl) ?_
      refine lv_sipush (v := (256)) hx hb dJ6_numberOfTrailingZeros_0f7a4_35 (by decide) ?_
      obtain ⟨o9, eo9, h⟩ := obind h
      have hJ49_o9 : ∀ ls : Array Slot, lv_has ls 2 [(0, .int o9.1), (1, .int o9.2)] → W p l e (headSpec (ws_ yJ6_numberOfTrailingZeros_0f7a4 cJ6_numberOfTrailingZeros_0f7a4 2 (some .int)) rm_J6_numberOfTrailingZeros_0f7a4).room s m ([.int a1] : List Value).toArray below meth c s.heap [] 0 0 (MQ below (QR (some (.int res))) ([.int a1] : List Value).toArray s 0 0 FN) (F0 m 49 ls []) := by
        intro ls hl
        refine lv_iload_n hx hb dJ6_numberOfTrailingZeros_0f7a4_49 rfl (lv_at hl 0 rfl) ?_
        refine lv_bipush (v := (16)) hx hb dJ6_numberOfTrailingZeros_0f7a4_50 (by decide) ?_
        obtain ⟨o14, eo14, h⟩ := obind h
        have hJ62_o14 : ∀ ls : Array Slot, lv_has ls 2 [(0, .int o14.1), (1, .int o14.2)] → W p l e (headSpec (ws_ yJ6_numberOfTrailingZeros_0f7a4 cJ6_numberOfTrailingZeros_0f7a4 2 (some .int)) rm_J6_numberOfTrailingZeros_0f7a4).room s m ([.int a1] : List Value).toArray below meth c s.heap [] 0 0 (MQ below (QR (some (.int res))) ([.int a1] : List Value).toArray s 0 0 FN) (F0 m 62 ls []) := by
          intro ls hl
          refine lv_iload_n hx hb dJ6_numberOfTrailingZeros_0f7a4_62 rfl (lv_at hl 0 rfl) ?_
          refine lv_iconst (v := (4)) hx hb dJ6_numberOfTrailingZeros_0f7a4_63 (by decide) ?_
          obtain ⟨o19, eo19, h⟩ := obind h
          have hJ74_o19 : ∀ ls : Array Slot, lv_has ls 2 [(0, .int o19.1), (1, .int o19.2)] → W p l e (headSpec (ws_ yJ6_numberOfTrailingZeros_0f7a4 cJ6_numberOfTrailingZeros_0f7a4 2 (some .int)) rm_J6_numberOfTrailingZeros_0f7a4).room s m ([.int a1] : List Value).toArray below meth c s.heap [] 0 0 (MQ below (QR (some (.int res))) ([.int a1] : List Value).toArray s 0 0 FN) (F0 m 74 ls []) := by
            intro ls hl
            refine lv_iload_n hx hb dJ6_numberOfTrailingZeros_0f7a4_74 rfl (lv_at hl 1 rfl) ?_
            refine lv_iload_n hx hb dJ6_numberOfTrailingZeros_0f7a4_75 rfl (lv_at hl 0 rfl) ?_
            refine lv_iconst (v := (1)) hx hb dJ6_numberOfTrailingZeros_0f7a4_76 (by decide) ?_
            refine lv_iushr hx hb dJ6_numberOfTrailingZeros_0f7a4_77 rfl ?_
            refine lv_iadd hx hb dJ6_numberOfTrailingZeros_0f7a4_78 ?_
            obtain rfl := Option.some.inj h
            exact W.iret hx hb hr (fun t ht hW => ⟨rfl, ht⟩) (fun q hq => absurd hq List.not_mem_nil) dJ6_numberOfTrailingZeros_0f7a4_79
          have h := eo19
          clear eo19
          refine lv_icmp_le (tgt := 74) hx hb dJ6_numberOfTrailingZeros_0f7a4_64 (by decide) (fun hc => ?_) (fun hc => ?_)
          · have h := iteT hc h
            obtain rfl := Option.some.inj h
            exact hJ74_o19 ls (lv_sub hl [0, 1] rfl)
          · have h := iteF hc h
            obtain ⟨x20, ex20, h⟩ := jlet_some h
            refine lv_iinc (v := x20) (lv' := [(1, .int x20), (0, .int o14.1)]) hx hb dJ6_numberOfTrailingZeros_0f7a4_67 hl (k := 1) rfl (by rw [ex20]; rfl) (by decide) rfl (fun ls hl => ?_)
            refine lv_iload_n hx hb dJ6_numberOfTrailingZeros_0f7a4_70 rfl (lv_at hl 1 rfl) ?_
            refine lv_iconst (v := (2)) hx hb dJ6_numberOfTrailingZeros_0f7a4_71 (by decide) ?_
            refine lv_iushr hx hb dJ6_numberOfTrailingZeros_0f7a4_72 rfl ?_
            obtain ⟨x21, ex21, h⟩ := jlet_some h
            refine topI ex21 ?_
            refine lv_istore_n (lv' := [(0, .int x21), (1, .int x20)]) hx hb dJ6_numberOfTrailingZeros_0f7a4_73 rfl hl (by decide) rfl (fun ls hl => ?_)
            obtain rfl := Option.some.inj h
            exact hJ74_o19 ls (lv_sub hl [0, 1] rfl)
        have h := eo14
        clear eo14
        refine lv_icmp_le (tgt := 62) hx hb dJ6_numberOfTrailingZeros_0f7a4_52 (by decide) (fun hc => ?_) (fun hc => ?_)
        · have h := iteT hc h
          obtain rfl := Option.some.inj h
          exact hJ62_o14 ls (lv_sub hl [0, 1] rfl)
        · have h := iteF hc h
          obtain ⟨x15, ex15, h⟩ := jlet_some h
          refine lv_iinc (v := x15) (lv' := [(1, .int x15), (0, .int o9.1)]) hx hb dJ6_numberOfTrailingZeros_0f7a4_55 hl (k := 1) rfl (by rw [ex15]; rfl) (by decide) rfl (fun ls hl => ?_)
          refine lv_iload_n hx hb dJ6_numberOfTrailingZeros_0f7a4_58 rfl (lv_at hl 1 rfl) ?_
          refine lv_iconst (v := (4)) hx hb dJ6_numberOfTrailingZeros_0f7a4_59 (by decide) ?_
          refine lv_iushr hx hb dJ6_numberOfTrailingZeros_0f7a4_60 rfl ?_
          obtain ⟨x16, ex16, h⟩ := jlet_some h
          refine topI ex16 ?_
          refine lv_istore_n (lv' := [(0, .int x16), (1, .int x15)]) hx hb dJ6_numberOfTrailingZeros_0f7a4_61 rfl hl (by decide) rfl (fun ls hl => ?_)
          obtain rfl := Option.some.inj h
          exact hJ62_o14 ls (lv_sub hl [0, 1] rfl)
      have h := eo9
      clear eo9
      refine lv_icmp_le (tgt := 49) hx hb dJ6_numberOfTrailingZeros_0f7a4_38 (by decide) (fun hc => ?_) (fun hc => ?_)
      · have h := iteT hc h
        obtain rfl := Option.some.inj h
        exact hJ49_o9 ls (lv_sub hl [0, 1] rfl)
      · have h := iteF hc h
        obtain ⟨x10, ex10, h⟩ := jlet_some h
        refine lv_iinc (v := x10) (lv' := [(1, .int x10), (0, .int o4.1)]) hx hb dJ6_numberOfTrailingZeros_0f7a4_41 hl (k := 1) rfl (by rw [ex10]; rfl) (by decide) rfl (fun ls hl => ?_)
        refine lv_iload_n hx hb dJ6_numberOfTrailingZeros_0f7a4_44 rfl (lv_at hl 1 rfl) ?_
        refine lv_bipush (v := (8)) hx hb dJ6_numberOfTrailingZeros_0f7a4_45 (by decide) ?_
        refine lv_iushr hx hb dJ6_numberOfTrailingZeros_0f7a4_47 rfl ?_
        obtain ⟨x11, ex11, h⟩ := jlet_some h
        refine topI ex11 ?_
        refine lv_istore_n (lv' := [(0, .int x11), (1, .int x10)]) hx hb dJ6_numberOfTrailingZeros_0f7a4_48 rfl hl (by decide) rfl (fun ls hl => ?_)
        obtain rfl := Option.some.inj h
        exact hJ49_o9 ls (lv_sub hl [0, 1] rfl)
    have h := eo4
    clear eo4
    refine lv_icmp_le (tgt := 34) hx hb dJ6_numberOfTrailingZeros_0f7a4_23 (by decide) (fun hc => ?_) (fun hc => ?_)
    · have h := iteT hc h
      obtain rfl := Option.some.inj h
      exact hJ34_o4 ls (lv_sub hl [1, 0] rfl)
    · have h := iteF hc h
      obtain ⟨x5, ex5, h⟩ := jlet_some h
      refine lv_iinc (v := x5) (lv' := [(1, .int x5), (0, .int x1)]) hx hb dJ6_numberOfTrailingZeros_0f7a4_26 hl (k := 0) rfl (by rw [ex5]; rfl) (by decide) rfl (fun ls hl => ?_)
      refine lv_iload_n hx hb dJ6_numberOfTrailingZeros_0f7a4_29 rfl (lv_at hl 1 rfl) ?_
      refine lv_bipush (v := (16)) hx hb dJ6_numberOfTrailingZeros_0f7a4_30 (by decide) ?_
      refine lv_iushr hx hb dJ6_numberOfTrailingZeros_0f7a4_32 rfl ?_
      obtain ⟨x6, ex6, h⟩ := jlet_some h
      refine topI ex6 ?_
      refine lv_istore_n (lv' := [(0, .int x6), (1, .int x5)]) hx hb dJ6_numberOfTrailingZeros_0f7a4_33 rfl hl (by decide) rfl (fun ls hl => ?_)
      obtain rfl := Option.some.inj h
      exact hJ34_o4 ls (lv_sub hl [0, 1] rfl)
  · have h := iteF hc h
    refine lv_iload_n hx hb dJ6_numberOfTrailingZeros_0f7a4_12 rfl (lv_at hl 0 rfl) ?_
    refine lv_bipush (v := (32)) hx hb dJ6_numberOfTrailingZeros_0f7a4_13 (by decide) ?_
    refine lv_iand hx hb dJ6_numberOfTrailingZeros_0f7a4_15 ?_
    obtain rfl := Option.some.inj h
    exact W.iret hx hb hr (fun t ht hW => ⟨rfl, ht⟩) (fun q hq => absurd hq List.not_mem_nil) dJ6_numberOfTrailingZeros_0f7a4_16
